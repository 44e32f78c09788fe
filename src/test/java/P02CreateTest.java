/** Promise 2: create. */
public final class P02CreateTest extends Sentences {
    public static void main(String[] args) {
        emptyFile();
        emptyWhereAnotherFileWas();
        badNumber();
        fileExists();
        existsWithoutReplicas();
        noServerIsUp();
        oneServerIsUp();
        firstServersThatAreUp();
        asManyUpAsCopies();
        fewerUpThanCopies();
        orderBeforeTheCall();
        orderLeavesOutServersThatAreDown();
        replicasAreCurrent();
        end();
    }

    private static void isEmpty(ChunkCluster x, int file) {
        due("length(" + file + ")", x.length(file), 0);
        for (int cell = 0; cell < 6; cell++) {
            due("read(" + file + ", " + cell + ")", x.read(file, cell), 0);
        }
    }

    private static void emptyFile() {
        sentence("Makes a file with six cells 0 and length 0.");
        ChunkCluster x = new ChunkCluster(2);
        for (int file = 0; file < 4; file++) {
            due("create(" + file + ")", x.create(file), 2);
            isEmpty(x, file);
        }
        fill(x, 1, 10);
        isEmpty(x, 0);
        isEmpty(x, 2);
    }

    private static void emptyWhereAnotherFileWas() {
        sentence("Makes a file with six cells 0 and length 0.");
        for (int file = 0; file < 4; file++) {
            ChunkCluster x = new ChunkCluster(3);
            x.create(file);
            fill(x, file, 10);
            x.remove(file);
            due("create(" + file + ")", x.create(file), 3);
            isEmpty(x, file);
        }
    }

    private static void badNumber() {
        sentence("create: BAD_NUMBER");
        for (int file : BAD_FILES) {
            due("create(" + file + ")", new ChunkCluster(1).create(file), ChunkCluster.BAD_NUMBER);
        }
    }

    private static void fileExists() {
        sentence("the file exists: EXISTS");
        for (int file = 0; file < 4; file++) {
            ChunkCluster x = new ChunkCluster(1);
            x.create(file);
            due("create(" + file + ") again", x.create(file), ChunkCluster.EXISTS);
            x.append(file, 4);
            due("create(" + file + ") after a write", x.create(file), ChunkCluster.EXISTS);
            due("its length stays", x.length(file), 1);
            x.crash(0);
            due("create(" + file + ") while not available", x.create(file), ChunkCluster.EXISTS);
        }
        ChunkCluster y = new ChunkCluster(1);
        y.create(0);
        y.snapshot(0, 1);
        due("create of a snapshot", y.create(1), ChunkCluster.EXISTS);
    }

    private static void existsWithoutReplicas() {
        sentence("the file exists: EXISTS");
        ChunkCluster x = bare();
        due("create(0) with no replica left", x.create(0), ChunkCluster.EXISTS);
        x.remove(0);
        due("create(0) once it is removed", x.create(0), 2);
    }

    private static void noServerIsUp() {
        sentence("no server is up: NO_SERVER");
        ChunkCluster x = new ChunkCluster(3);
        crashAll(x);
        for (int file = 0; file < 4; file++) {
            due("create(" + file + ")", x.create(file), ChunkCluster.NO_SERVER);
            due("replicas(" + file + ")", x.replicas(file), ChunkCluster.NO_FILE);
        }
        restartAll(x);
        due("create(0) with all up again", x.create(0), 3);
    }

    private static void oneServerIsUp() {
        sentence("no server is up: NO_SERVER");
        for (int only = 0; only < 5; only++) {
            ChunkCluster x = new ChunkCluster(1);
            crashAll(x);
            x.restart(only);
            due("create(0) with server " + only + " up", x.create(0), 1);
            due("replicas(0) with server " + only + " up", x.replicas(0), 1 << only);
        }
    }

    private static void firstServersThatAreUp() {
        sentence("the first 'copies' servers that are up");
        int[] masks = {0b00001, 0b00011, 0b00111};
        for (int copies = 1; copies <= 3; copies++) {
            ChunkCluster x = new ChunkCluster(copies);
            due("create(0), copies " + copies, x.create(0), copies);
            due("replicas(0), copies " + copies, x.replicas(0), masks[copies - 1]);
        }
    }

    private static void asManyUpAsCopies() {
        sentence("the first 'copies' servers that are up");
        ChunkCluster x = new ChunkCluster(3);
        crash(x, 0, 3);
        due("create(0)", x.create(0), 3);
        due("replicas(0)", x.replicas(0), 0b10110);
    }

    private static void fewerUpThanCopies() {
        sentence("(all of them if there are fewer)");
        ChunkCluster x = new ChunkCluster(3);
        crash(x, 0, 2, 3);
        due("create(0) with two up", x.create(0), 2);
        due("replicas(0)", x.replicas(0), 0b10010);
        crash(x, 1);
        due("create(1) with one up", x.create(1), 1);
        due("replicas(1)", x.replicas(1), 0b10000);
        ChunkCluster y = new ChunkCluster(2);
        crash(y, 0, 1, 2, 4);
        due("create(0) with one up, copies 2", y.create(0), 1);
        due("replicas(0), copies 2", y.replicas(0), 0b01000);
    }

    private static void orderBeforeTheCall() {
        sentence("in the order of servers as it is before the call");
        ChunkCluster x = new ChunkCluster(3);
        x.create(0);
        due("replicas(0): none has any", x.replicas(0), 0b00111);
        x.create(1);
        due("replicas(1): 3 and 4 have none, 0 is the next", x.replicas(1), 0b11001);
        x.create(2);
        due("replicas(2): 1 to 4 have one", x.replicas(2), 0b01110);
        x.create(3);
        due("replicas(3): 4 has one, 0 and 1 have two", x.replicas(3), 0b10011);
    }

    private static void orderLeavesOutServersThatAreDown() {
        sentence("in the order of servers as it is before the call");
        ChunkCluster x = new ChunkCluster(2);
        x.create(0);
        crash(x, 2, 3);
        x.create(1);
        due("replicas(1): 4 has none, 0 and 1 have one", x.replicas(1), 0b10001);
        restart(x, 3);
        x.create(2);
        due("replicas(2): 3 has none, 1 and 4 have one", x.replicas(2), 0b01010);
    }

    private static void replicasAreCurrent() {
        sentence("get current replicas; answers how many");
        ChunkCluster x = new ChunkCluster(3);
        due("create(0)", x.create(0), 3);
        due("write to it", x.write(0, 0, 1), 3);
        for (int server = 0; server < 3; server++) {
            due("damage(" + server + ", 0)", x.damage(server, 0), 1);
        }
        due("damage(3, 0)", x.damage(3, 0), 0);
        due("damage(4, 0)", x.damage(4, 0), 0);
    }
}
