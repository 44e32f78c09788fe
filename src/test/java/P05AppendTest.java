/** Promise 5: append. */
public final class P05AppendTest extends Sentences {
    public static void main(String[] args) {
        cellAtTheLength();
        afterTheHighestCellWritten();
        asWriteDoes();
        badNumber();
        noFile();
        unavailable();
        full();
        fullByAWriteOfTheLastCell();
        notFullAfterRemove();
        answersTheIndex();
        end();
    }

    private static ChunkCluster oneFile(int copies) {
        ChunkCluster x = new ChunkCluster(copies);
        x.create(0);
        return x;
    }

    private static void cellAtTheLength() {
        sentence("Writes the value into the cell whose index is the file's length");
        ChunkCluster x = oneFile(2);
        for (int cell = 0; cell < 6; cell++) {
            x.append(0, -1 - cell);
            due("length", x.length(0), cell + 1);
            for (int other = 0; other < 6; other++) {
                due("read(0, " + other + ")", x.read(0, other), other <= cell ? -1 - other : 0);
            }
        }
    }

    private static void afterTheHighestCellWritten() {
        sentence("Writes the value into the cell whose index is the file's length");
        ChunkCluster x = oneFile(2);
        x.write(0, 3, 33);
        x.write(0, 1, 11);
        due("append", x.append(0, 44), 4);
        due("read(0, 4)", x.read(0, 4), 44);
        due("read(0, 3)", x.read(0, 3), 33);
        due("read(0, 2)", x.read(0, 2), 0);
    }

    private static void asWriteDoes() {
        sentence("as write does");
        ChunkCluster x = oneFile(3);
        x.crash(1);
        due("append", x.append(0, 5), 0);
        due("replicas: server 1 missed it", x.replicas(0), 0b00101);
        x.restart(1);
        due("replicas: for good", x.replicas(0), 0b00101);
        for (int server = 0; server < 3; server++) {
            crashAll(x);
            x.restart(server);
            due("read from server " + server, x.read(0, 0), server == 1 ? ChunkCluster.UNAVAILABLE : 5);
        }
    }

    private static void badNumber() {
        sentence("append: BAD_NUMBER");
        for (int file : BAD_FILES) {
            due("append(" + file + ", 1)", busy().append(file, 1), ChunkCluster.BAD_NUMBER);
        }
    }

    private static void noFile() {
        sentence("append: NO_FILE");
        for (int file = 1; file < 4; file++) {
            due("append(" + file + ", 1)", oneFile(3).append(file, 1), ChunkCluster.NO_FILE);
        }
    }

    private static void unavailable() {
        sentence("append: UNAVAILABLE");
        ChunkCluster x = oneFile(2);
        crash(x, 0, 1);
        due("all its servers are down", x.append(0, 1), ChunkCluster.UNAVAILABLE);
        due("it has no replica left", bare().append(0, 1), ChunkCluster.UNAVAILABLE);
        restart(x, 1);
        due("one of its servers is up again", x.append(0, 1), 0);
    }

    private static void full() {
        sentence("the length is 6: FULL");
        ChunkCluster x = oneFile(2);
        for (int cell = 0; cell < 5; cell++) {
            x.append(0, cell);
        }
        due("append, the length is 5", x.append(0, 55), 5);
        due("append, the length is 6", x.append(0, 66), ChunkCluster.FULL);
        due("once more", x.append(0, 77), ChunkCluster.FULL);
        due("length", x.length(0), 6);
        due("read(0, 5)", x.read(0, 5), 55);
        due("read(0, 0)", x.read(0, 0), 0);
    }

    private static void fullByAWriteOfTheLastCell() {
        sentence("the length is 6: FULL");
        ChunkCluster x = oneFile(2);
        x.create(1);
        x.write(0, 5, 5);
        due("append", x.append(0, 6), ChunkCluster.FULL);
        due("append to another file", x.append(1, 6), 0);
        x.write(0, 0, 1);
        due("append after a write into the first cell", x.append(0, 6), ChunkCluster.FULL);
        x.snapshot(0, 2);
        due("append to a snapshot of a full file", x.append(2, 6), ChunkCluster.FULL);
        x.crash(0);
        due("append while a server is down", x.append(0, 6), ChunkCluster.FULL);
        due("replicas: there was no write to miss", x.replicas(0), 0b00011);
    }

    private static void notFullAfterRemove() {
        sentence("the length is 6: FULL");
        ChunkCluster x = oneFile(2);
        fill(x, 0, 1);
        x.remove(0);
        x.create(0);
        due("append to the new file", x.append(0, 9), 0);
    }

    private static void answersTheIndex() {
        sentence("Else answers the cell's index.");
        for (int copies = 1; copies <= 3; copies++) {
            ChunkCluster x = oneFile(copies);
            for (int cell = 0; cell < 6; cell++) {
                due("append, copies " + copies, x.append(0, 100), cell);
            }
        }
    }
}
