/** Promise 6: snapshot. */
public final class P06SnapshotTest extends Sentences {
    public static void main(String[] args) {
        copyAsItIsNow();
        copyOfAnEmptyFile();
        copyOverWhatWasRemoved();
        replicasOnJustThoseServers();
        replicasOnServersThatAreDown();
        moreOrFewerReplicasThanCopies();
        independentContents();
        independentReplicas();
        independentOnceFromIsRemoved();
        badNumber();
        fromDoesNotExist();
        toExists();
        toExistsWithoutReplicas();
        fromIsNotAvailable();
        answersHowMany();
        end();
    }

    private static void sameFile(ChunkCluster x, int from, int to) {
        due("replicas(" + to + ")", x.replicas(to), x.replicas(from));
        due("length(" + to + ")", x.length(to), x.length(from));
        for (int cell = 0; cell < 6; cell++) {
            due("read(" + to + ", " + cell + ")", x.read(to, cell), x.read(from, cell));
        }
    }

    private static void copyAsItIsNow() {
        sentence("Makes file 'to' a copy of file 'from' as it is now");
        for (int from = 0; from < 4; from++) {
            for (int to = 0; to < 4; to++) {
                if (from != to) {
                    ChunkCluster x = new ChunkCluster(2);
                    x.create(from);
                    fill(x, from, 40);
                    due("snapshot(" + from + ", " + to + ")", x.snapshot(from, to), 2);
                    due("read(" + to + ", 5)", x.read(to, 5), 45);
                    sameFile(x, from, to);
                }
            }
        }
        ChunkCluster y = new ChunkCluster(2);
        y.create(0);
        y.write(0, 3, 3);
        y.snapshot(0, 1);
        due("length of a file that is not full", y.length(1), 4);
        due("append to it", y.append(1, 4), 4);
    }

    private static void copyOfAnEmptyFile() {
        sentence("Makes file 'to' a copy of file 'from' as it is now");
        ChunkCluster x = new ChunkCluster(3);
        x.create(0);
        due("snapshot(0, 1)", x.snapshot(0, 1), 3);
        due("length(1)", x.length(1), 0);
        sameFile(x, 0, 1);
    }

    private static void copyOverWhatWasRemoved() {
        sentence("Makes file 'to' a copy of file 'from' as it is now");
        ChunkCluster x = new ChunkCluster(3);
        x.create(1);
        fill(x, 1, 10);
        x.remove(1);
        x.create(0);
        x.write(0, 1, 5);
        x.snapshot(0, 1);
        due("length(1)", x.length(1), 2);
        due("read(1, 0)", x.read(1, 0), 0);
        sameFile(x, 0, 1);
    }

    private static void replicasOnJustThoseServers() {
        sentence("with current replicas on just those servers [...] that have current ones of 'from'");
        ChunkCluster x = new ChunkCluster(3);
        x.create(0);
        x.create(1);
        x.damage(4, 1);
        due("snapshot(1, 2)", x.snapshot(1, 2), 2);
        due("replicas(2): not by the order, not the damaged one", x.replicas(2), 0b01001);
        x.crash(3);
        x.append(1, 1);
        x.restart(3);
        due("snapshot(1, 3)", x.snapshot(1, 3), 1);
        due("replicas(3): not the stale one", x.replicas(3), 0b00001);
    }

    private static void replicasOnServersThatAreDown() {
        sentence("up or down");
        ChunkCluster x = new ChunkCluster(3);
        x.create(0);
        x.append(0, 5);
        crash(x, 0, 1);
        due("snapshot(0, 1)", x.snapshot(0, 1), 3);
        due("replicas(1)", x.replicas(1), 0b00111);
        crash(x, 2);
        restart(x, 0);
        due("read from a server that was down", x.read(1, 0), 5);
        due("loseDisk of it", x.loseDisk(0), 2);
    }

    private static void moreOrFewerReplicasThanCopies() {
        sentence("with current replicas on just those servers, up or down, that have current ones of 'from'");
        ChunkCluster x = new ChunkCluster(2);
        x.create(0);
        crash(x, 0, 1);
        restart(x, 0);
        x.heal();
        restartAll(x);
        due("three of 'from'", x.snapshot(0, 1), 3);
        due("replicas(1)", x.replicas(1), 0b00111);
        x.loseDisk(0);
        x.loseDisk(2);
        due("one of 'from'", x.snapshot(0, 2), 1);
        due("replicas(2)", x.replicas(2), 0b00010);
    }

    private static void independentContents() {
        sentence("from then on the two files are independent");
        ChunkCluster x = new ChunkCluster(3);
        x.create(0);
        x.write(0, 1, 7);
        x.snapshot(0, 1);
        x.write(0, 1, 8);
        due("read(1, 1) after a write to 'from'", x.read(1, 1), 7);
        x.append(0, 9);
        due("length(1) after an append to 'from'", x.length(1), 2);
        due("read(1, 2) after an append to 'from'", x.read(1, 2), 0);
        x.write(1, 0, 6);
        due("read(0, 0) after a write to 'to'", x.read(0, 0), 0);
        x.write(1, 5, 5);
        due("length(0) after a write to 'to'", x.length(0), 3);
        due("length(1) after a write to 'to'", x.length(1), 6);
    }

    private static void independentReplicas() {
        sentence("from then on the two files are independent");
        ChunkCluster x = new ChunkCluster(3);
        x.create(0);
        x.snapshot(0, 1);
        x.damage(0, 0);
        due("replicas(1) after damage of 'from'", x.replicas(1), 0b00111);
        x.damage(1, 1);
        due("replicas(0) after damage of 'to'", x.replicas(0), 0b00110);
        x.crash(2);
        x.append(0, 1);
        due("replicas(0) after a write while 2 is down", x.replicas(0), 0b00010);
        due("replicas(1) after a write to 'from' while 2 is down", x.replicas(1), 0b00101);
    }

    private static void independentOnceFromIsRemoved() {
        sentence("from then on the two files are independent");
        ChunkCluster x = new ChunkCluster(2);
        x.create(0);
        fill(x, 0, 20);
        x.snapshot(0, 1);
        x.remove(0);
        due("replicas(1)", x.replicas(1), 0b00011);
        due("read(1, 3)", x.read(1, 3), 23);
        x.create(0);
        due("read(1, 3) with a new file 0", x.read(1, 3), 23);
        x.snapshot(1, 2);
        x.remove(2);
        due("read(1, 3) after remove of 'to'", x.read(1, 3), 23);
    }

    private static void badNumber() {
        sentence("snapshot: BAD_NUMBER");
        for (int file : BAD_FILES) {
            due("snapshot(" + file + ", 3)", busy().snapshot(file, 3), ChunkCluster.BAD_NUMBER);
            due("snapshot(0, " + file + ")", busy().snapshot(0, file), ChunkCluster.BAD_NUMBER);
            due("snapshot(" + file + ", " + file + ")", busy().snapshot(file, file), ChunkCluster.BAD_NUMBER);
        }
    }

    private static void fromDoesNotExist() {
        sentence("from doesn't exist: NO_FILE");
        ChunkCluster x = new ChunkCluster(2);
        due("snapshot(0, 1), no files", x.snapshot(0, 1), ChunkCluster.NO_FILE);
        due("snapshot(0, 0), no files", x.snapshot(0, 0), ChunkCluster.NO_FILE);
        x.create(1);
        due("snapshot(0, 1), 'to' exists", x.snapshot(0, 1), ChunkCluster.NO_FILE);
        due("snapshot(0, 2), neither exists", x.snapshot(0, 2), ChunkCluster.NO_FILE);
        x.remove(1);
        due("snapshot(1, 0), 'from' was removed", x.snapshot(1, 0), ChunkCluster.NO_FILE);
    }

    private static void toExists() {
        sentence("to exists (from == to too): EXISTS");
        ChunkCluster x = new ChunkCluster(2);
        x.create(0);
        x.create(1);
        due("snapshot(0, 1)", x.snapshot(0, 1), ChunkCluster.EXISTS);
        due("snapshot(0, 0)", x.snapshot(0, 0), ChunkCluster.EXISTS);
        x.snapshot(0, 2);
        due("snapshot(0, 2) again", x.snapshot(0, 2), ChunkCluster.EXISTS);
        x.remove(2);
        due("snapshot(0, 2) once it is removed", x.snapshot(0, 2), 2);
        due("snapshot(0, 1), 'to' is not available", busy().snapshot(0, 1), ChunkCluster.EXISTS);
    }

    private static void toExistsWithoutReplicas() {
        sentence("to exists (from == to too): EXISTS");
        ChunkCluster x = bare();
        x.create(1);
        due("snapshot(1, 0)", x.snapshot(1, 0), ChunkCluster.EXISTS);
        due("snapshot(0, 0)", x.snapshot(0, 0), ChunkCluster.EXISTS);
    }

    private static void fromIsNotAvailable() {
        sentence("from is not available: UNAVAILABLE");
        due("its servers are down", busy().snapshot(1, 3), ChunkCluster.UNAVAILABLE);
        due("no server is up", busyAndDown().snapshot(0, 3), ChunkCluster.UNAVAILABLE);
        due("it has no replica left", bare().snapshot(0, 3), ChunkCluster.UNAVAILABLE);
        ChunkCluster x = busy();
        restart(x, 3);
        due("one of its servers is up again", x.snapshot(1, 3), 2);
    }

    private static void answersHowMany() {
        sentence("Else answers how many replicas 'to' has.");
        for (int copies = 1; copies <= 3; copies++) {
            ChunkCluster x = new ChunkCluster(copies);
            x.create(0);
            due("copies " + copies, x.snapshot(0, 1), copies);
        }
        ChunkCluster y = new ChunkCluster(3);
        y.create(0);
        crash(y, 0, 1);
        y.heal();
        due("on all five servers, two of them down", y.snapshot(0, 1), 5);
    }
}
