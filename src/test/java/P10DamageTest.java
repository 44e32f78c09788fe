/** Promise 10: damage. */
public final class P10DamageTest extends Sentences {
    public static void main(String[] args) {
        noLongerCurrent();
        onlyThatReplica();
        onAServerThatIsDown();
        lastReplica();
        badNumber();
        noFile();
        oneIfItHadACurrentReplica();
        zeroIfNot();
        end();
    }

    private static ChunkCluster twoFiles() {
        ChunkCluster x = new ChunkCluster(3);
        x.create(0);
        x.append(0, 5);
        x.snapshot(0, 1);
        return x;
    }

    private static void noLongerCurrent() {
        sentence("Damages what the server has of the file: that replica is no longer current.");
        for (int server = 0; server < 3; server++) {
            ChunkCluster x = twoFiles();
            x.damage(server, 0);
            due("replicas(0) without server " + server, x.replicas(0), 0b00111 & ~(1 << server));
            due("write(0, 0, 6)", x.write(0, 0, 6), 2);
            crashAll(x);
            x.restart(server);
            due("read(0, 0) from server " + server, x.read(0, 0), ChunkCluster.UNAVAILABLE);
        }
    }

    private static void onlyThatReplica() {
        sentence("Damages what the server has of the file: that replica is no longer current.");
        ChunkCluster x = twoFiles();
        x.damage(1, 0);
        due("replicas(1)", x.replicas(1), 0b00111);
        due("read(0, 0)", x.read(0, 0), 5);
        due("length(0)", x.length(0), 1);
        due("loseDisk(1)", x.loseDisk(1), 1);
        due("crash(1), it was up", x.crash(1), 1);
    }

    private static void onAServerThatIsDown() {
        sentence("Damages what the server has of the file: that replica is no longer current.");
        ChunkCluster x = twoFiles();
        x.crash(2);
        due("damage(2, 0)", x.damage(2, 0), 1);
        due("replicas(0)", x.replicas(0), 0b00011);
        crash(x, 0, 1);
        due("damage(1, 1), the file is not available", x.damage(1, 1), 1);
        due("replicas(1)", x.replicas(1), 0b00101);
        restart(x, 2);
        due("read(0, 0) from server 2", x.read(0, 0), ChunkCluster.UNAVAILABLE);
        due("read(1, 0) from server 2", x.read(1, 0), 5);
        due("restart(1), it was down", x.restart(1), 1);
    }

    private static void lastReplica() {
        sentence("Damages what the server has of the file: that replica is no longer current.");
        ChunkCluster x = twoFiles();
        for (int server = 0; server < 3; server++) {
            due("damage(" + server + ", 0)", x.damage(server, 0), 1);
        }
        due("replicas(0)", x.replicas(0), 0);
        due("read(0, 0)", x.read(0, 0), ChunkCluster.UNAVAILABLE);
        due("damage(0, 0) of a file without replicas", x.damage(0, 0), 0);
        due("heal()", x.heal(), 0);
        due("create(0)", x.create(0), ChunkCluster.EXISTS);
        due("replicas(1)", x.replicas(1), 0b00111);
    }

    private static void badNumber() {
        sentence("damage: BAD_NUMBER");
        for (int server : BAD_SERVERS) {
            due("damage(" + server + ", 0)", busy().damage(server, 0), ChunkCluster.BAD_NUMBER);
        }
        for (int file : BAD_FILES) {
            due("damage(0, " + file + ")", busy().damage(0, file), ChunkCluster.BAD_NUMBER);
        }
        due("damage(4, 4): 4 is a server, but not a file", busy().damage(4, 4), ChunkCluster.BAD_NUMBER);
        due("damage(5, 3): 3 is a file, but 5 not a server", busy().damage(5, 3), ChunkCluster.BAD_NUMBER);
        due("damage(4, 2): 4 is a server", busy().damage(4, 2), 1);
    }

    private static void noFile() {
        sentence("damage: NO_FILE");
        ChunkCluster x = twoFiles();
        for (int server = 0; server < 5; server++) {
            due("damage(" + server + ", 2)", x.damage(server, 2), ChunkCluster.NO_FILE);
            due("damage(" + server + ", 3)", x.damage(server, 3), ChunkCluster.NO_FILE);
        }
        x.remove(0);
        due("damage(0, 0) of a removed file", x.damage(0, 0), ChunkCluster.NO_FILE);
    }

    private static void oneIfItHadACurrentReplica() {
        sentence("answers 1 if the server had a current replica");
        for (int server = 0; server < 3; server++) {
            due("damage(" + server + ", 1)", twoFiles().damage(server, 1), 1);
        }
        ChunkCluster x = twoFiles();
        x.damage(0, 0);
        crash(x, 3, 4);
        due("heal(), only server 0 is left", x.heal(), 1);
        due("damage(0, 0) of the new one", x.damage(0, 0), 1);
    }

    private static void zeroIfNot() {
        sentence("0 if not");
        State s = P10DamageTest::twoFiles;
        changesNothing("damage(3, 0)", s, x -> x.damage(3, 0), 0);
        changesNothing("damage(4, 1)", s, x -> x.damage(4, 1), 0);
        ChunkCluster x = twoFiles();
        x.damage(0, 0);
        due("damage(0, 0) twice", x.damage(0, 0), 0);
        x.crash(1);
        x.append(0, 1);
        due("damage(1, 0) of a stale one", x.damage(1, 0), 0);
        x.loseDisk(2);
        due("damage(2, 1) of a lost one", x.damage(2, 1), 0);
    }
}
