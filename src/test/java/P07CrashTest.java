/** Promise 7: crash. */
public final class P07CrashTest extends Sentences {
    public static void main(String[] args) {
        goesDown();
        onlyThatServer();
        getsNoReplicas();
        badNumber();
        oneIfItWasUp();
        zeroIfNot();
        end();
    }

    private static void goesDown() {
        sentence("The server goes down.");
        for (int server = 0; server < 5; server++) {
            ChunkCluster x = new ChunkCluster(1);
            crashAll(x);
            x.restart(server);
            x.create(0);
            x.append(0, 3);
            restartAll(x);
            due("crash(" + server + ")", x.crash(server), 1);
            due("read, its only server is down", x.read(0, 0), ChunkCluster.UNAVAILABLE);
            due("replicas, its disk keeps what it has", x.replicas(0), 1 << server);
        }
    }

    private static void onlyThatServer() {
        sentence("The server goes down.");
        for (int server = 0; server < 5; server++) {
            ChunkCluster x = new ChunkCluster(1);
            x.crash(server);
            for (int other = 0; other < 5; other++) {
                due("restart(" + other + ") after crash(" + server + ")", x.restart(other), other == server ? 1 : 0);
            }
        }
    }

    private static void getsNoReplicas() {
        sentence("The server goes down.");
        ChunkCluster x = new ChunkCluster(3);
        crash(x, 0, 2);
        x.create(0);
        due("create leaves it out", x.replicas(0), 0b11010);
        crash(x, 1);
        due("heal leaves it out", x.heal(), 0);
        due("replicas", x.replicas(0), 0b11010);
    }

    private static void badNumber() {
        sentence("crash: BAD_NUMBER");
        for (int server : BAD_SERVERS) {
            ChunkCluster x = new ChunkCluster(3);
            due("crash(" + server + ")", x.crash(server), ChunkCluster.BAD_NUMBER);
            for (int other = 0; other < 5; other++) {
                due("crash(" + other + ") after it", x.crash(other), 1);
            }
        }
    }

    private static void oneIfItWasUp() {
        sentence("answers 1 if it was up");
        ChunkCluster x = new ChunkCluster(3);
        for (int server = 0; server < 5; server++) {
            due("crash(" + server + ")", x.crash(server), 1);
        }
        restartAll(x);
        for (int server = 4; server >= 0; server--) {
            due("crash(" + server + ") after a restart", x.crash(server), 1);
        }
    }

    private static void zeroIfNot() {
        sentence("0 if not");
        for (int server = 0; server < 5; server++) {
            ChunkCluster x = new ChunkCluster(3);
            x.crash(server);
            due("crash(" + server + ") twice", x.crash(server), 0);
            due("crash(" + server + ") thrice", x.crash(server), 0);
            due("it is down", x.restart(server), 1);
        }
        changesNothing("crash(0)", P07CrashTest::busy, x -> x.crash(0), 0);
    }
}
