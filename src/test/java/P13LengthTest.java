/** Promise 13: length. */
public final class P13LengthTest extends Sentences {
    public static void main(String[] args) {
        fromZeroToSix();
        ofEachFile();
        badNumber();
        noFile();
        unavailable();
        end();
    }

    private static void fromZeroToSix() {
        sentence("The file's length");
        ChunkCluster x = new ChunkCluster(1);
        x.create(3);
        due("length(3) of an empty file", x.length(3), 0);
        for (int length = 1; length <= 6; length++) {
            x.append(3, 0);
            due("length(3), though its cells are 0", x.length(3), length);
        }
        x.append(3, 0);
        due("length(3) of a full file", x.length(3), 6);
    }

    private static void ofEachFile() {
        sentence("The file's length");
        ChunkCluster x = new ChunkCluster(2);
        for (int file = 0; file < 4; file++) {
            x.create(file);
            x.write(file, file + 1, 1);
        }
        for (int file = 0; file < 4; file++) {
            due("length(" + file + ")", x.length(file), file + 2);
        }
    }

    private static void badNumber() {
        sentence("length: BAD_NUMBER");
        for (int file : BAD_FILES) {
            due("length(" + file + ")", busy().length(file), ChunkCluster.BAD_NUMBER);
        }
    }

    private static void noFile() {
        sentence("length: NO_FILE");
        for (int file = 0; file < 4; file++) {
            due("length(" + file + ")", new ChunkCluster(1).length(file), ChunkCluster.NO_FILE);
        }
        due("length(3)", busy().length(3), ChunkCluster.NO_FILE);
    }

    private static void unavailable() {
        sentence("length: UNAVAILABLE");
        due("length(1), its servers are down", busy().length(1), ChunkCluster.UNAVAILABLE);
        due("length(0), no server is up", busyAndDown().length(0), ChunkCluster.UNAVAILABLE);
        due("length(0), it has no replica left", bare().length(0), ChunkCluster.UNAVAILABLE);
        ChunkCluster x = busy();
        restart(x, 3);
        due("length(1), one of its servers is up again", x.length(1), 1);
    }
}
