import static java.lang.Integer.MAX_VALUE;
import static java.lang.Integer.MIN_VALUE;

/** Promise 1: a new object. */
public final class P01NewObjectTest extends Sentences {
    public static void main(String[] args) {
        belowOneBecomesOne();
        aboveThreeBecomesThree();
        oneToThreeStays();
        noFiles();
        end();
    }

    /** How many replicas are wanted, as create sees it and as heal sees it. */
    private static void wants(int copies, int want) {
        String made = "new ChunkCluster(" + copies + ")";
        due(made + ", create", new ChunkCluster(copies).create(0), want);
        ChunkCluster x = new ChunkCluster(copies);
        crash(x, 1, 2, 3, 4);
        x.create(0);
        restartAll(x);
        due(made + ", heal of a file with one replica", x.heal(), want - 1);
    }

    private static void belowOneBecomesOne() {
        sentence("below 1 becomes 1");
        wants(0, 1);
        wants(-1, 1);
        wants(-3, 1);
        wants(MIN_VALUE, 1);
    }

    private static void aboveThreeBecomesThree() {
        sentence("above 3 becomes 3");
        wants(4, 3);
        wants(5, 3);
        wants(6, 3);
        wants(MAX_VALUE, 3);
    }

    private static void oneToThreeStays() {
        sentence("copies is clamped into 1 to 3 [...]: how many replicas a file should have");
        wants(1, 1);
        wants(2, 2);
        wants(3, 3);
    }

    private static void noFiles() {
        sentence("No files.");
        for (int file = 0; file < 4; file++) {
            ChunkCluster x = new ChunkCluster(3);
            due("replicas(" + file + ")", x.replicas(file), ChunkCluster.NO_FILE);
            due("length(" + file + ")", x.length(file), ChunkCluster.NO_FILE);
            due("read(" + file + ", 0)", x.read(file, 0), ChunkCluster.NO_FILE);
            due("write(" + file + ", 0, 1)", x.write(file, 0, 1), ChunkCluster.NO_FILE);
            due("append(" + file + ", 1)", x.append(file, 1), ChunkCluster.NO_FILE);
            due("remove(" + file + ")", x.remove(file), ChunkCluster.NO_FILE);
            due("damage(0, " + file + ")", x.damage(0, file), ChunkCluster.NO_FILE);
            due("snapshot(" + file + ", " + (3 - file) + ")", x.snapshot(file, 3 - file), ChunkCluster.NO_FILE);
        }
        for (int server = 0; server < 5; server++) {
            due("loseDisk(" + server + ")", new ChunkCluster(3).loseDisk(server), 0);
        }
        due("heal()", new ChunkCluster(3).heal(), 0);
    }
}
