/** Promise 3: remove. */
public final class P03RemoveTest extends Sentences {
    public static void main(String[] args) {
        fileIsGone();
        allReplicasAreGone();
        replicasOnServersThatAreDownAreGone();
        otherFilesStay();
        badNumber();
        noFile();
        answersZero();
        end();
    }

    private static void fileIsGone() {
        sentence("Takes a file away");
        for (int file = 0; file < 4; file++) {
            ChunkCluster x = new ChunkCluster(2);
            x.create(file);
            x.append(file, 5);
            due("remove(" + file + ")", x.remove(file), 0);
            due("replicas", x.replicas(file), ChunkCluster.NO_FILE);
            due("length", x.length(file), ChunkCluster.NO_FILE);
            due("read", x.read(file, 0), ChunkCluster.NO_FILE);
            due("write", x.write(file, 0, 1), ChunkCluster.NO_FILE);
            due("append", x.append(file, 1), ChunkCluster.NO_FILE);
            due("damage", x.damage(0, file), ChunkCluster.NO_FILE);
            due("snapshot", x.snapshot(file, 3 - file), ChunkCluster.NO_FILE);
            due("heal", x.heal(), 0);
            due("create", x.create(file), 2);
        }
    }

    private static void allReplicasAreGone() {
        sentence("with all replicas");
        ChunkCluster x = new ChunkCluster(3);
        x.create(0);
        x.remove(0);
        for (int server = 0; server < 5; server++) {
            due("loseDisk(" + server + ")", x.loseDisk(server), 0);
        }
        ChunkCluster y = new ChunkCluster(3);
        y.create(0);
        y.remove(0);
        y.create(1);
        due("replicas of the next file", y.replicas(1), 0b00111);
    }

    private static void replicasOnServersThatAreDownAreGone() {
        sentence("with all replicas");
        ChunkCluster x = new ChunkCluster(2);
        x.create(0);
        x.append(0, 9);
        crash(x, 0, 1);
        x.remove(0);
        restart(x, 0, 1);
        due("replicas(0) after the restart", x.replicas(0), ChunkCluster.NO_FILE);
        due("loseDisk(0)", x.loseDisk(0), 0);
        crash(x, 0, 1);
        x.create(0);
        due("replicas(0) of the new file", x.replicas(0), 0b01100);
        restart(x, 0, 1);
        due("the old replicas are not the new file's", x.replicas(0), 0b01100);
        crash(x, 2, 3);
        due("nor make it available", x.read(0, 0), ChunkCluster.UNAVAILABLE);
    }

    private static void otherFilesStay() {
        sentence("Takes a file away, with all replicas.");
        ChunkCluster x = new ChunkCluster(3);
        x.create(1);
        fill(x, 1, 30);
        x.snapshot(1, 0);
        x.snapshot(1, 2);
        x.remove(1);
        for (int file = 0; file <= 2; file += 2) {
            due("replicas(" + file + ")", x.replicas(file), 0b00111);
            for (int cell = 0; cell < 6; cell++) {
                due("read(" + file + ", " + cell + ")", x.read(file, cell), 30 + cell);
            }
        }
    }

    private static void badNumber() {
        sentence("remove: BAD_NUMBER");
        for (int file : BAD_FILES) {
            due("remove(" + file + ")", busy().remove(file), ChunkCluster.BAD_NUMBER);
        }
    }

    private static void noFile() {
        sentence("remove: NO_FILE");
        ChunkCluster x = new ChunkCluster(2);
        for (int file = 0; file < 4; file++) {
            due("remove(" + file + ")", x.remove(file), ChunkCluster.NO_FILE);
        }
        x.create(2);
        x.remove(2);
        due("remove(2) twice", x.remove(2), ChunkCluster.NO_FILE);
        due("remove(3) of the others", busy().remove(3), ChunkCluster.NO_FILE);
    }

    private static void answersZero() {
        sentence("Else answers 0.");
        due("remove of an available file", busy().remove(0), 0);
        due("remove of a file that is not available", busy().remove(1), 0);
        due("remove of a full file", busy().remove(2), 0);
        due("remove with no server up", busyAndDown().remove(0), 0);
        due("remove of a file without replicas", bare().remove(0), 0);
    }
}
