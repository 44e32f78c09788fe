/** Promise 15: order and limits. */
public final class P15OrderTest extends Sentences {
    public static void main(String[] args) {
        unavailableBeforeBadCell();
        unavailableBeforeFull();
        existsBeforeNoServer();
        snapshotNoFileFirst();
        snapshotExistsNext();
        snapshotUnavailableLast();
        noFileBeforeBadCell();
        noFileBeforeFull();
        end();
    }

    private static void unavailableBeforeBadCell() {
        sentence("write and read UNAVAILABLE before BAD_CELL");
        for (int cell : BAD_CELLS) {
            State s = P15OrderTest::busy;
            changesNothing("write(1, " + cell + ", 1)", s, x -> x.write(1, cell, 1), ChunkCluster.UNAVAILABLE);
            changesNothing("read(1, " + cell + ")", s, x -> x.read(1, cell), ChunkCluster.UNAVAILABLE);
            due("write(0, " + cell + ", 1), available", busy().write(0, cell, 1), ChunkCluster.BAD_CELL);
            due("read(0, " + cell + "), available", busy().read(0, cell), ChunkCluster.BAD_CELL);
            due("write, no replica left", bare().write(0, cell, 1), ChunkCluster.UNAVAILABLE);
            due("read, no replica left", bare().read(0, cell), ChunkCluster.UNAVAILABLE);
        }
    }

    private static void unavailableBeforeFull() {
        sentence("append UNAVAILABLE before FULL");
        changesNothing("append(2, 1)", P15OrderTest::busyAndDown, x -> x.append(2, 1), ChunkCluster.UNAVAILABLE);
        due("append(2, 1), available", busy().append(2, 1), ChunkCluster.FULL);
        ChunkCluster x = busy();
        x.damage(0, 2);
        x.loseDisk(4);
        due("append(2, 1), no replica left", x.append(2, 1), ChunkCluster.UNAVAILABLE);
    }

    private static void existsBeforeNoServer() {
        sentence("create EXISTS before NO_SERVER");
        changesNothing("create(1)", P15OrderTest::busyAndDown, x -> x.create(1), ChunkCluster.EXISTS);
        changesNothing("create(3)", P15OrderTest::busyAndDown, x -> x.create(3), ChunkCluster.NO_SERVER);
        ChunkCluster x = bare();
        crashAll(x);
        due("create(0), no replica left", x.create(0), ChunkCluster.EXISTS);
    }

    private static void snapshotNoFileFirst() {
        sentence("snapshot NO_FILE of from");
        due("snapshot(3, 0), 'to' exists", busy().snapshot(3, 0), ChunkCluster.NO_FILE);
        due("snapshot(3, 1), 'to' exists, not available", busy().snapshot(3, 1), ChunkCluster.NO_FILE);
        due("snapshot(3, 3)", busy().snapshot(3, 3), ChunkCluster.NO_FILE);
        due("snapshot(3, 0), no server is up", busyAndDown().snapshot(3, 0), ChunkCluster.NO_FILE);
        due("snapshot(1, 2), neither exists, no server is up", downWithOneFile().snapshot(1, 2), ChunkCluster.NO_FILE);
    }

    private static ChunkCluster downWithOneFile() {
        ChunkCluster x = new ChunkCluster(1);
        x.create(0);
        crashAll(x);
        return x;
    }

    private static void snapshotExistsNext() {
        sentence("then EXISTS of to");
        due("snapshot(1, 0), 'from' is not available", busy().snapshot(1, 0), ChunkCluster.EXISTS);
        due("snapshot(1, 1), it is not available", busy().snapshot(1, 1), ChunkCluster.EXISTS);
        due("snapshot(0, 2), no server is up", busyAndDown().snapshot(0, 2), ChunkCluster.EXISTS);
        due("snapshot(0, 0), no replica left", bare().snapshot(0, 0), ChunkCluster.EXISTS);
    }

    private static void snapshotUnavailableLast() {
        sentence("then UNAVAILABLE");
        due("snapshot(1, 3)", busy().snapshot(1, 3), ChunkCluster.UNAVAILABLE);
        due("snapshot(0, 1), no server is up", downWithOneFile().snapshot(0, 1), ChunkCluster.UNAVAILABLE);
    }

    private static void noFileBeforeBadCell() {
        sentence("In each call refusals are tested in the order in which they are named");
        for (int cell : BAD_CELLS) {
            due("write(3, " + cell + ", 1)", busy().write(3, cell, 1), ChunkCluster.NO_FILE);
            due("read(3, " + cell + ")", busy().read(3, cell), ChunkCluster.NO_FILE);
        }
        due("write(3, 0, 1), no server is up", busyAndDown().write(3, 0, 1), ChunkCluster.NO_FILE);
        due("append(3, 1), no server is up", busyAndDown().append(3, 1), ChunkCluster.NO_FILE);
        due("read(3, 0), no server is up", busyAndDown().read(3, 0), ChunkCluster.NO_FILE);
        due("length(3), no server is up", busyAndDown().length(3), ChunkCluster.NO_FILE);
    }

    private static void noFileBeforeFull() {
        sentence("In each call refusals are tested in the order in which they are named");
        ChunkCluster x = new ChunkCluster(2);
        x.create(0);
        fill(x, 0, 1);
        x.remove(0);
        due("append(0, 1), the file was full", x.append(0, 1), ChunkCluster.NO_FILE);
        crashAll(x);
        due("append(0, 1), no server is up", x.append(0, 1), ChunkCluster.NO_FILE);
    }
}
