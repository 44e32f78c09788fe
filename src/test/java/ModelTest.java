/** Fixed runs of up to 512 calls, each answer compared with the model's. */
public final class ModelTest {
    private static final int RUNS = 4000;
    private static final int CALLS = 512;
    private static final int[] ODD = {-1, 4, 5, 6, 32, 33, Integer.MIN_VALUE, Integer.MAX_VALUE};

    private final Check check;
    private final int run;
    private final ChunkCluster cluster;
    private final Model model;
    private long state;

    private ModelTest(Check check, int run) {
        this.check = check;
        this.run = run;
        this.state = run * 7919L + 17;
        // From -1 to 5, so that clamping is met on both sides.
        int copies = run % 7 - 1;
        this.cluster = new ChunkCluster(copies);
        this.model = new Model(copies);
    }

    // A fixed sequence, so that a failing run fails the same way each time.
    private int next(int bound) {
        state = state * 6364136223846793005L + 1442695040888963407L;
        return (int) ((state >>> 33) % bound);
    }

    private int number(int bound) {
        return next(25) == 0 ? ODD[next(ODD.length)] : next(bound);
    }

    private void due(String call, int got, int want) {
        check.due("run " + run + ": " + call, got, want);
    }

    private void call() {
        int file = number(4);
        int server = number(5);
        int cell = number(6);
        int value = next(8) == 0 ? -next(8) : next(1000);
        int other = number(4);
        switch (next(15)) {
            case 0, 1 -> due("create(" + file + ")", cluster.create(file), model.create(file));
            case 2 -> {
                if (next(3) == 0) due("remove(" + file + ")", cluster.remove(file), model.remove(file));
            }
            case 3, 4 -> due("write(" + file + ", " + cell + ", " + value + ")",
                    cluster.write(file, cell, value), model.write(file, cell, value));
            case 5 -> due("append(" + file + ", " + value + ")", cluster.append(file, value), model.append(file, value));
            case 6 -> due("snapshot(" + file + ", " + other + ")",
                    cluster.snapshot(file, other), model.snapshot(file, other));
            case 7 -> due("crash(" + server + ")", cluster.crash(server), model.crash(server));
            case 8, 9 -> {
                // In some runs servers seldom come back, so that none may be up.
                if (run % 3 != 0 || next(3) == 0) {
                    due("restart(" + server + ")", cluster.restart(server), model.restart(server));
                }
            }
            case 10 -> {
                if (next(4) == 0) due("loseDisk(" + server + ")", cluster.loseDisk(server), model.loseDisk(server));
            }
            case 11 -> due("damage(" + server + ", " + file + ")",
                    cluster.damage(server, file), model.damage(server, file));
            case 12 -> due("heal()", cluster.heal(), model.heal());
            case 13 -> due("read(" + file + ", " + cell + ")", cluster.read(file, cell), model.read(file, cell));
            default -> {
                due("length(" + file + ")", cluster.length(file), model.length(file));
                due("replicas(" + file + ")", cluster.replicas(file), model.replicas(file));
            }
        }
    }

    public static void main(String[] args) {
        Check check = new Check();
        for (int run = 0; run < RUNS; run++) {
            ModelTest test = new ModelTest(check, run);
            // A turn makes at most two calls, and 512 is the most that is promised.
            for (int turn = 0; turn < CALLS / 2; turn++) {
                test.call();
            }
        }
        check.end();
    }
}
