import static java.lang.Integer.MAX_VALUE;
import static java.lang.Integer.MIN_VALUE;

/** Promise 4: write. */
public final class P04WriteTest extends Sentences {
    public static void main(String[] args) {
        writesACell();
        leavesOtherCells();
        badNumber();
        noFile();
        unavailable();
        badCell();
        firstAndLastCell();
        onlyServersThatAreUpGetIt();
        missedReplicasAreStaleForGood();
        lengthBecomesCellPlusOne();
        lengthStaysIfItWasNotLess();
        answersHowMany();
        end();
    }

    private static ChunkCluster oneFile(int copies) {
        ChunkCluster x = new ChunkCluster(copies);
        x.create(0);
        return x;
    }

    private static void writesACell() {
        sentence("Writes a cell.");
        ChunkCluster x = oneFile(3);
        int[] values = {1, 0, -1, MAX_VALUE, MIN_VALUE, ChunkCluster.BAD_CELL};
        for (int cell = 0; cell < 6; cell++) {
            for (int value : values) {
                due("write(0, " + cell + ", " + value + ")", x.write(0, cell, value), 3);
                due("read(0, " + cell + ")", x.read(0, cell), value);
            }
        }
    }

    private static void leavesOtherCells() {
        sentence("Writes a cell.");
        ChunkCluster x = oneFile(1);
        x.create(1);
        x.create(2);
        fill(x, 0, 10);
        fill(x, 1, 20);
        fill(x, 2, 30);
        x.write(1, 0, 99);
        x.write(1, 5, 98);
        due("read(0, 5)", x.read(0, 5), 15);
        due("read(1, 0)", x.read(1, 0), 99);
        for (int cell = 1; cell < 5; cell++) {
            due("read(1, " + cell + ")", x.read(1, cell), 20 + cell);
        }
        due("read(1, 5)", x.read(1, 5), 98);
        due("read(2, 0)", x.read(2, 0), 30);
    }

    private static void badNumber() {
        sentence("write: BAD_NUMBER");
        for (int file : BAD_FILES) {
            due("write(" + file + ", 0, 1)", busy().write(file, 0, 1), ChunkCluster.BAD_NUMBER);
        }
    }

    private static void noFile() {
        sentence("write: NO_FILE");
        for (int file = 1; file < 4; file++) {
            due("write(" + file + ", 0, 1)", oneFile(3).write(file, 0, 1), ChunkCluster.NO_FILE);
        }
    }

    private static void unavailable() {
        sentence("write: UNAVAILABLE");
        ChunkCluster x = oneFile(2);
        crash(x, 0, 1);
        due("all its servers are down", x.write(0, 0, 1), ChunkCluster.UNAVAILABLE);
        due("it has no replica left", bare().write(0, 0, 1), ChunkCluster.UNAVAILABLE);
        restart(x, 0);
        due("one of its servers is up again", x.write(0, 0, 1), 1);
    }

    private static void badCell() {
        sentence("cell not in 0 to 5: BAD_CELL");
        for (int cell : BAD_CELLS) {
            ChunkCluster x = oneFile(3);
            x.create(1);
            due("write(0, " + cell + ", 1)", x.write(0, cell, 1), ChunkCluster.BAD_CELL);
            due("write(1, " + cell + ", 1)", x.write(1, cell, 1), ChunkCluster.BAD_CELL);
            due("length(0)", x.length(0), 0);
            due("length(1)", x.length(1), 0);
        }
    }

    private static void firstAndLastCell() {
        sentence("cell not in 0 to 5: BAD_CELL");
        due("write(0, 0, 1)", oneFile(3).write(0, 0, 1), 3);
        due("write(0, 5, 1)", oneFile(3).write(0, 5, 1), 3);
    }

    private static void onlyServersThatAreUpGetIt() {
        sentence("the current replicas on servers that are up get the write");
        for (int down = 0; down < 3; down++) {
            ChunkCluster x = oneFile(3);
            x.write(0, 0, 1);
            x.crash(down);
            due("write, server " + down + " is down", x.write(0, 0, 2), 2);
            due("replicas", x.replicas(0), 0b00111 & ~(1 << down));
            due("read", x.read(0, 0), 2);
            for (int server = 0; server < 3; server++) {
                crashAll(x);
                x.restart(server);
                due("read from server " + server, x.read(0, 0), server == down ? ChunkCluster.UNAVAILABLE : 2);
            }
        }
    }

    private static void missedReplicasAreStaleForGood() {
        sentence("and are the only current ones from then on");
        ChunkCluster x = oneFile(3);
        crash(x, 1, 2);
        due("replicas before the write", x.replicas(0), 0b00111);
        x.write(0, 0, 0);
        due("even a write of what was there", x.replicas(0), 0b00001);
        restartAll(x);
        due("replicas after the restart", x.replicas(0), 0b00001);
        due("the next write", x.write(0, 0, 3), 1);
        x.crash(0);
        due("read without server 0", x.read(0, 0), ChunkCluster.UNAVAILABLE);
    }

    private static void lengthBecomesCellPlusOne() {
        sentence("the file's length becomes cell + 1 if it was less");
        for (int cell = 0; cell < 6; cell++) {
            ChunkCluster x = oneFile(2);
            x.write(0, cell, 0);
            due("length after cell " + cell, x.length(0), cell + 1);
            for (int skipped = 0; skipped < cell; skipped++) {
                due("a cell that was skipped", x.read(0, skipped), 0);
            }
        }
        ChunkCluster y = oneFile(2);
        y.create(1);
        for (int cell = 0; cell < 6; cell++) {
            y.write(0, cell, 1);
            due("length, one cell after another", y.length(0), cell + 1);
        }
        due("another file's length", y.length(1), 0);
    }

    private static void lengthStaysIfItWasNotLess() {
        sentence("the file's length becomes cell + 1 if it was less");
        ChunkCluster x = oneFile(2);
        x.write(0, 3, 1);
        x.write(0, 3, 2);
        due("the last cell again", x.length(0), 4);
        x.write(0, 2, 1);
        due("the cell before", x.length(0), 4);
        x.write(0, 0, 1);
        due("the first cell", x.length(0), 4);
        x.write(0, 4, 1);
        due("the cell after", x.length(0), 5);
    }

    private static void answersHowMany() {
        sentence("Answers how many replicas got it.");
        for (int copies = 1; copies <= 3; copies++) {
            due("copies " + copies, oneFile(copies).write(0, 0, 7), copies);
        }
        ChunkCluster x = oneFile(3);
        crash(x, 0, 1);
        x.heal();
        restartAll(x);
        due("more than copies", x.write(0, 0, 7), 5);
        crash(x, 0, 1, 2, 3);
        due("one is up", x.write(0, 0, 8), 1);
    }
}
