import static java.lang.Integer.MAX_VALUE;
import static java.lang.Integer.MIN_VALUE;

/** Promise 12: read. */
public final class P12ReadTest extends Sentences {
    public static void main(String[] args) {
        aCell();
        aCellBeyondTheLength();
        valuesLikeRefusals();
        badNumber();
        noFile();
        unavailable();
        badCell();
        end();
    }

    private static void aCell() {
        sentence("A cell of the file");
        ChunkCluster x = new ChunkCluster(2);
        for (int file = 0; file < 4; file++) {
            x.create(file);
            fill(x, file, 100 * file);
        }
        for (int file = 0; file < 4; file++) {
            for (int cell = 0; cell < 6; cell++) {
                due("read(" + file + ", " + cell + ")", x.read(file, cell), 100 * file + cell);
                due("read once more", x.read(file, cell), 100 * file + cell);
            }
        }
    }

    private static void aCellBeyondTheLength() {
        sentence("A cell of the file");
        ChunkCluster x = new ChunkCluster(2);
        x.create(0);
        for (int cell = 0; cell < 6; cell++) {
            due("read(0, " + cell + ") of an empty file", x.read(0, cell), 0);
        }
        x.append(0, 1);
        due("read(0, 1), the length is 1", x.read(0, 1), 0);
        due("read(0, 5), the length is 1", x.read(0, 5), 0);
        due("length(0) after it", x.length(0), 1);
    }

    private static void valuesLikeRefusals() {
        sentence("A cell of the file");
        ChunkCluster x = new ChunkCluster(1);
        x.create(0);
        int[] values = {-1, -2, -3, -4, -5, -6, -7, MIN_VALUE, MAX_VALUE};
        for (int value : values) {
            x.write(0, 0, value);
            due("read(0, 0)", x.read(0, 0), value);
        }
    }

    private static void badNumber() {
        sentence("read: BAD_NUMBER");
        for (int file : BAD_FILES) {
            due("read(" + file + ", 0)", busy().read(file, 0), ChunkCluster.BAD_NUMBER);
        }
    }

    private static void noFile() {
        sentence("read: NO_FILE");
        for (int file = 0; file < 4; file++) {
            due("read(" + file + ", 0)", new ChunkCluster(1).read(file, 0), ChunkCluster.NO_FILE);
        }
        due("read(3, 0)", busy().read(3, 0), ChunkCluster.NO_FILE);
    }

    private static void unavailable() {
        sentence("read: UNAVAILABLE");
        due("read(1, 0), its servers are down", busy().read(1, 0), ChunkCluster.UNAVAILABLE);
        due("read(0, 0), no server is up", busyAndDown().read(0, 0), ChunkCluster.UNAVAILABLE);
        due("read(0, 0), it has no replica left", bare().read(0, 0), ChunkCluster.UNAVAILABLE);
        ChunkCluster x = busy();
        restart(x, 2);
        due("read(1, 0), one of its servers is up again", x.read(1, 0), 51);
    }

    private static void badCell() {
        sentence("read: BAD_CELL");
        for (int cell : BAD_CELLS) {
            due("read(0, " + cell + ")", busy().read(0, cell), ChunkCluster.BAD_CELL);
            due("read(2, " + cell + ")", busy().read(2, cell), ChunkCluster.BAD_CELL);
        }
        due("read(2, 0)", busy().read(2, 0), 60);
        due("read(2, 5)", busy().read(2, 5), 65);
    }
}
