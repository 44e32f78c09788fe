/** Promise 9: loseDisk. */
public final class P09LoseDiskTest extends Sentences {
    public static void main(String[] args) {
        losesEverything();
        otherServersLoseNothing();
        lostReplicasDoNotComeBack();
        fileWithoutReplicasStillExists();
        staysUp();
        staysDown();
        badNumber();
        answersHowMany();
        staleAndDamagedOnesDoNotCount();
        emptyDisk();
        end();
    }

    /** Four files, each with current replicas on servers 0, 1 and 2. */
    private static ChunkCluster fourFiles() {
        ChunkCluster x = new ChunkCluster(3);
        x.create(0);
        x.append(0, 5);
        x.snapshot(0, 1);
        x.snapshot(0, 2);
        x.snapshot(0, 3);
        return x;
    }

    private static void losesEverything() {
        sentence("The server's disk loses everything it has.");
        for (int server = 0; server < 3; server++) {
            ChunkCluster x = fourFiles();
            x.loseDisk(server);
            for (int file = 0; file < 4; file++) {
                due("replicas(" + file + ") without server " + server, x.replicas(file), 0b00111 & ~(1 << server));
                due("damage of what is gone", x.damage(server, file), 0);
            }
        }
    }

    private static void otherServersLoseNothing() {
        sentence("The server's disk loses everything it has.");
        ChunkCluster x = fourFiles();
        x.loseDisk(1);
        for (int file = 0; file < 4; file++) {
            due("length(" + file + ")", x.length(file), 1);
            due("read(" + file + ", 0)", x.read(file, 0), 5);
            due("write(" + file + ", 0, 6)", x.write(file, 0, 6), 2);
        }
    }

    private static void lostReplicasDoNotComeBack() {
        sentence("The server's disk loses everything it has.");
        ChunkCluster x = new ChunkCluster(1);
        x.create(0);
        x.crash(0);
        x.loseDisk(0);
        x.restart(0);
        due("read after a restart", x.read(0, 0), ChunkCluster.UNAVAILABLE);
        due("replicas after a restart", x.replicas(0), 0);
        x.create(1);
        due("the disk counts as empty in the order", x.replicas(1), 0b00001);
    }

    private static void fileWithoutReplicasStillExists() {
        sentence("The server's disk loses everything it has.");
        ChunkCluster x = fourFiles();
        for (int server = 0; server < 3; server++) {
            due("loseDisk(" + server + ")", x.loseDisk(server), 4);
        }
        due("replicas(0)", x.replicas(0), 0);
        due("length(0)", x.length(0), ChunkCluster.UNAVAILABLE);
        due("create(0)", x.create(0), ChunkCluster.EXISTS);
        due("heal()", x.heal(), 0);
        due("remove(0)", x.remove(0), 0);
    }

    private static void staysUp() {
        sentence("(Up or down, it stays so.)");
        for (int server = 0; server < 5; server++) {
            ChunkCluster x = fourFiles();
            x.loseDisk(server);
            due("crash(" + server + ")", x.crash(server), 1);
        }
        ChunkCluster y = new ChunkCluster(2);
        y.create(0);
        y.loseDisk(0);
        due("heal gives it a new one", y.heal(), 1);
        due("replicas", y.replicas(0), 0b00011);
    }

    private static void staysDown() {
        sentence("(Up or down, it stays so.)");
        for (int server = 0; server < 5; server++) {
            ChunkCluster x = fourFiles();
            x.crash(server);
            x.loseDisk(server);
            due("restart(" + server + ")", x.restart(server), 1);
        }
    }

    private static void badNumber() {
        sentence("loseDisk: BAD_NUMBER");
        for (int server : BAD_SERVERS) {
            ChunkCluster x = fourFiles();
            due("loseDisk(" + server + ")", x.loseDisk(server), ChunkCluster.BAD_NUMBER);
            due("replicas(0) after it", x.replicas(0), 0b00111);
        }
    }

    private static void answersHowMany() {
        sentence("Else answers how many current replicas it had.");
        for (int files = 0; files <= 4; files++) {
            ChunkCluster x = new ChunkCluster(1);
            crash(x, 0, 1, 2, 3);
            for (int file = 0; file < files; file++) {
                x.create(file);
            }
            due("loseDisk(4) with " + files + " files", x.loseDisk(4), files);
        }
        ChunkCluster y = fourFiles();
        y.crash(1);
        due("loseDisk of a server that is down", y.loseDisk(1), 4);
    }

    private static void staleAndDamagedOnesDoNotCount() {
        sentence("Else answers how many current replicas it had.");
        ChunkCluster x = fourFiles();
        x.damage(0, 1);
        due("loseDisk(0), one is damaged", x.loseDisk(0), 3);
        x.crash(1);
        x.write(3, 0, 1);
        x.write(0, 0, 1);
        due("loseDisk(1), two are stale", x.loseDisk(1), 2);
        x.remove(2);
        due("loseDisk(2), one is removed", x.loseDisk(2), 3);
    }

    private static void emptyDisk() {
        sentence("Else answers how many current replicas it had.");
        ChunkCluster x = fourFiles();
        due("loseDisk(4)", x.loseDisk(4), 0);
        x.loseDisk(0);
        due("loseDisk(0) twice", x.loseDisk(0), 0);
        changesNothing("loseDisk(3)", P09LoseDiskTest::fourFiles, y -> y.loseDisk(3), 0);
    }
}
