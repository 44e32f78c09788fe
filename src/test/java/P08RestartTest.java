/** Promise 8: restart. */
public final class P08RestartTest extends Sentences {
    public static void main(String[] args) {
        comesUp();
        onlyThatServer();
        getsReplicasAgain();
        badNumber();
        oneIfItWasDown();
        zeroIfNot();
        end();
    }

    private static void comesUp() {
        sentence("The server comes up again.");
        for (int server = 0; server < 5; server++) {
            ChunkCluster x = new ChunkCluster(1);
            crashAll(x);
            x.restart(server);
            x.create(0);
            x.append(0, 3);
            x.crash(server);
            due("restart(" + server + ")", x.restart(server), 1);
            due("read", x.read(0, 0), 3);
            due("replicas", x.replicas(0), 1 << server);
            due("write", x.write(0, 1, 4), 1);
        }
    }

    private static void onlyThatServer() {
        sentence("The server comes up again.");
        for (int server = 0; server < 5; server++) {
            ChunkCluster x = new ChunkCluster(1);
            crashAll(x);
            x.restart(server);
            for (int other = 0; other < 5; other++) {
                due("crash(" + other + ") after restart(" + server + ")", x.crash(other), other == server ? 1 : 0);
            }
        }
    }

    private static void getsReplicasAgain() {
        sentence("The server comes up again.");
        ChunkCluster x = new ChunkCluster(3);
        crash(x, 0, 1, 2, 3);
        x.create(0);
        restart(x, 2);
        due("heal", x.heal(), 1);
        due("replicas", x.replicas(0), 0b10100);
        restart(x, 0);
        due("create", x.create(1), 3);
        due("its replicas", x.replicas(1), 0b10101);
    }

    private static void badNumber() {
        sentence("restart: BAD_NUMBER");
        for (int server : BAD_SERVERS) {
            ChunkCluster x = new ChunkCluster(3);
            crashAll(x);
            due("restart(" + server + ")", x.restart(server), ChunkCluster.BAD_NUMBER);
            due("create after it", x.create(0), ChunkCluster.NO_SERVER);
        }
    }

    private static void oneIfItWasDown() {
        sentence("answers 1 if it was down");
        ChunkCluster x = new ChunkCluster(3);
        crashAll(x);
        for (int server = 0; server < 5; server++) {
            due("restart(" + server + ")", x.restart(server), 1);
        }
        x.crash(2);
        due("restart(2) after another crash", x.restart(2), 1);
    }

    private static void zeroIfNot() {
        sentence("0 if not");
        for (int server = 0; server < 5; server++) {
            ChunkCluster x = new ChunkCluster(3);
            due("restart(" + server + ") of a new object", x.restart(server), 0);
            x.crash(server);
            x.restart(server);
            due("restart(" + server + ") twice", x.restart(server), 0);
            due("it is up", x.crash(server), 1);
        }
        changesNothing("restart(1)", P08RestartTest::busy, x -> x.restart(1), 0);
    }
}
