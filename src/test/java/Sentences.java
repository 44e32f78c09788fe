import static java.lang.Integer.MAX_VALUE;
import static java.lang.Integer.MIN_VALUE;

import java.util.ArrayList;
import java.util.List;

/**
 * What the tests of the document's sentences share. In each of them a method
 * stands for one sentence, or one part of it, and bears its words.
 */
abstract class Sentences {
    interface State {
        ChunkCluster make();
    }

    interface Call {
        int on(ChunkCluster x);
    }

    // Beside the neighbours of the range: numbers that fall back into it when
    // they are used for a shift (32, 36, -32) or multiplied by six (715827883).
    static final int[] BAD_FILES = {-1, 4, 5, 32, -32, 715827883, MIN_VALUE, MAX_VALUE};
    static final int[] BAD_SERVERS = {-1, 5, 6, 32, 36, -32, MIN_VALUE, MAX_VALUE};
    // -6 and 12 would be cells of other files if files lay behind one another.
    static final int[] BAD_CELLS = {-1, 6, 7, -6, 12, MIN_VALUE, MAX_VALUE};

    private static final Check CHECK = new Check();
    private static String words = "";

    static void sentence(String quoted) {
        words = quoted;
    }

    static void due(String call, long got, long want) {
        CHECK.due("\"" + words + "\": " + call, got, want);
    }

    static void end() {
        CHECK.end();
    }

    /** The call answers as is due, and the object can't be told from a twin that didn't get it. */
    static void changesNothing(String name, State state, Call call, int want) {
        ChunkCluster called = state.make();
        ChunkCluster twin = state.make();
        due(name, call.on(called), want);
        List<Integer> got = allAnswers(called);
        List<Integer> untouched = allAnswers(twin);
        for (int i = 0; i < got.size(); i++) {
            due("answer " + i + " after " + name, got.get(i), untouched.get(i));
        }
    }

    // Goes on to change the object, as only so what is on servers that are
    // down, how many copies are wanted and what a server bears can be seen.
    private static List<Integer> allAnswers(ChunkCluster x) {
        List<Integer> answers = new ArrayList<>();
        addFiles(x, answers);
        for (int server = 0; server < 5; server++) {
            answers.add(x.restart(server));
        }
        addFiles(x, answers);
        answers.add(x.heal());
        addFiles(x, answers);
        for (int file = 0; file < 4; file++) {
            answers.add(x.remove(file));
            answers.add(x.create(file));
            answers.add(x.replicas(file));
        }
        return answers;
    }

    private static void addFiles(ChunkCluster x, List<Integer> answers) {
        for (int file = 0; file < 4; file++) {
            answers.add(x.replicas(file));
            answers.add(x.length(file));
            for (int cell = 0; cell < 6; cell++) {
                answers.add(x.read(file, cell));
            }
        }
    }

    static void crash(ChunkCluster x, int... servers) {
        for (int server : servers) {
            x.crash(server);
        }
    }

    static void restart(ChunkCluster x, int... servers) {
        for (int server : servers) {
            x.restart(server);
        }
    }

    static void crashAll(ChunkCluster x) {
        crash(x, 0, 1, 2, 3, 4);
    }

    static void restartAll(ChunkCluster x) {
        restart(x, 0, 1, 2, 3, 4);
    }

    static void fill(ChunkCluster x, int file, int first) {
        for (int cell = 0; cell < 6; cell++) {
            x.write(file, cell, first + cell);
        }
    }

    /**
     * Two copies; servers 1 and 4 are up. File 0 is available (server 1; 0 is
     * down), file 1 isn't (2 and 3 are down), file 2 is full and available
     * (server 4; 0 is down), file 3 doesn't exist.
     */
    static ChunkCluster busy() {
        ChunkCluster x = new ChunkCluster(2);
        x.create(0);
        x.create(1);
        x.create(2);
        x.write(0, 2, -7);
        x.append(1, 51);
        fill(x, 2, 60);
        crash(x, 0, 2, 3);
        return x;
    }

    /** The same, but no server is up. */
    static ChunkCluster busyAndDown() {
        ChunkCluster x = busy();
        crashAll(x);
        return x;
    }

    /** A file of number 0 that exists, but has no current replica any more; all servers are up. */
    static ChunkCluster bare() {
        ChunkCluster x = new ChunkCluster(2);
        x.create(0);
        x.append(0, 41);
        x.loseDisk(0);
        x.damage(1, 0);
        return x;
    }
}
