import static java.lang.Integer.MAX_VALUE;
import static java.lang.Integer.MIN_VALUE;

/** The sentences under "What it is" and "Terms". */
public final class TermsTest extends Sentences {
    public static void main(String[] args) {
        everyServerFileAndCell();
        cellsAreInts();
        lastOfAllCalls();
        lastCallAfterManyRefusals();
        diskKeepsWhatItHas();
        allServersAreUp();
        currentWithoutAnyWrite();
        currentHasAllWrites();
        staleNeverMakesAvailable();
        staleNeverCountsInAnswers();
        staleNeverCountsInTheOrder();
        staleNeverCountsForHeal();
        staleIsNotTakenOverBySnapshot();
        damagedNeverCounts();
        fewerReplicasFirst();
        replicasOverAllFiles();
        equallyManySmallerNumberFirst();
        availableByOneServer();
        notAvailableByOtherServers();
        badServers();
        badFiles();
        badNumberIsFirst();
        refusedCallsChangeNothing();
        refusedWithoutAnyServerUp();
        refusedForAFileWithoutReplicas();
        queriesChangeNothing();
        end();
    }

    private static void everyServerFileAndCell() {
        sentence("five SERVERS (0 to 4) with up to four FILES (0 to 3) of six cells");
        ChunkCluster x = new ChunkCluster(3);
        for (int file = 0; file < 4; file++) {
            due("create(" + file + ")", x.create(file), 3);
            for (int cell = 0; cell < 6; cell++) {
                due("write", x.write(file, cell, 10 * file + cell), 3);
            }
        }
        for (int file = 0; file < 4; file++) {
            for (int cell = 0; cell < 6; cell++) {
                due("read(" + file + ", " + cell + ")", x.read(file, cell), 10 * file + cell);
            }
        }
        for (int server = 0; server < 5; server++) {
            due("crash(" + server + ")", x.crash(server), 1);
        }
    }

    private static void cellsAreInts() {
        sentence("cells (ints)");
        ChunkCluster x = new ChunkCluster(1);
        x.create(0);
        int[] values = {MIN_VALUE, MAX_VALUE, -1, 0, 65536, -7};
        for (int cell = 0; cell < 6; cell++) {
            due("append", x.append(0, values[cell]), cell);
        }
        for (int cell = 0; cell < 6; cell++) {
            due("read(0, " + cell + ")", x.read(0, cell), values[cell]);
        }
    }

    private static void lastOfAllCalls() {
        sentence("An object is used for at most 512 calls after it has been made");
        ChunkCluster x = new ChunkCluster(2);
        int calls = 0;
        while (calls < 504) {
            due("create", x.create(0), 2);
            due("append", x.append(0, calls), 0);
            due("snapshot", x.snapshot(0, 1), 2);
            due("crash", x.crash(0), 1);
            due("heal", x.heal(), 2);
            due("restart", x.restart(0), 1);
            due("remove", x.remove(0), 0);
            due("remove", x.remove(1), 0);
            calls += 8;
        }
        due("call 505", x.create(3), 2);
        due("call 506", x.replicas(3), 0b00011);
        due("call 507", x.write(3, 5, 507), 2);
        due("call 508", x.crash(1), 1);
        due("call 509", x.write(3, 4, 509), 1);
        due("call 510", x.heal(), 1);
        due("call 511", x.replicas(3), 0b00101);
        due("call 512", x.read(3, 5), 507);
    }

    private static void lastCallAfterManyRefusals() {
        sentence("An object is used for at most 512 calls after it has been made");
        ChunkCluster x = new ChunkCluster(1);
        x.create(0);
        for (int call = 2; call <= 510; call++) {
            due("call " + call, x.create(0), ChunkCluster.EXISTS);
        }
        due("call 511", x.append(0, 8), 0);
        due("call 512", x.length(0), 1);
    }

    private static void diskKeepsWhatItHas() {
        sentence("its disk keeps what it has while it is down");
        ChunkCluster x = new ChunkCluster(1);
        x.create(0);
        fill(x, 0, 70);
        x.crash(0);
        due("replicas while down", x.replicas(0), 0b00001);
        x.restart(0);
        due("replicas", x.replicas(0), 0b00001);
        due("length", x.length(0), 6);
        for (int cell = 0; cell < 6; cell++) {
            due("read(0, " + cell + ")", x.read(0, cell), 70 + cell);
        }
    }

    private static void allServersAreUp() {
        sentence("All servers are up at the start.");
        for (int server = 0; server < 5; server++) {
            due("crash(" + server + ")", new ChunkCluster(1).crash(server), 1);
            due("restart(" + server + ")", new ChunkCluster(1).restart(server), 0);
        }
    }

    private static void currentWithoutAnyWrite() {
        sentence("one that has all writes to the file so far");
        ChunkCluster x = new ChunkCluster(3);
        x.create(0);
        crash(x, 0, 1, 2);
        restartAll(x);
        due("down, but there was no write", x.replicas(0), 0b00111);
        x.create(1);
        x.crash(0);
        x.write(1, 0, 5);
        due("a write to another file", x.replicas(0), 0b00111);
    }

    private static void currentHasAllWrites() {
        sentence("one that has all writes to the file so far");
        ChunkCluster x = new ChunkCluster(2);
        x.create(0);
        x.append(0, 11);
        x.crash(0);
        due("all writes, though down", x.replicas(0), 0b00011);
        x.append(0, 12);
        due("one write missed", x.replicas(0), 0b00010);
    }

    /** File 0 is current on server 1 and stale on server 0; all servers are up. */
    private static ChunkCluster staleOnServer0() {
        ChunkCluster x = new ChunkCluster(2);
        x.create(0);
        x.append(0, 1);
        x.crash(0);
        x.append(0, 2);
        x.restart(0);
        return x;
    }

    private static void staleNeverMakesAvailable() {
        sentence("Replicas that missed a write are stale and never count for anything again");
        ChunkCluster x = staleOnServer0();
        x.crash(1);
        due("read", x.read(0, 0), ChunkCluster.UNAVAILABLE);
        due("length", x.length(0), ChunkCluster.UNAVAILABLE);
        due("write", x.write(0, 0, 9), ChunkCluster.UNAVAILABLE);
        due("append", x.append(0, 9), ChunkCluster.UNAVAILABLE);
        due("snapshot", x.snapshot(0, 1), ChunkCluster.UNAVAILABLE);
        x.loseDisk(1);
        due("replicas, all current ones lost", x.replicas(0), 0);
        restartAll(x);
        due("read, all current ones lost", x.read(0, 0), ChunkCluster.UNAVAILABLE);
    }

    private static void staleNeverCountsInAnswers() {
        sentence("Replicas that missed a write are stale and never count for anything again");
        due("replicas", staleOnServer0().replicas(0), 0b00010);
        due("write", staleOnServer0().write(0, 0, 9), 1);
        due("loseDisk", staleOnServer0().loseDisk(0), 0);
        due("damage", staleOnServer0().damage(0, 0), 0);
        ChunkCluster x = staleOnServer0();
        x.write(0, 0, 9);
        x.write(0, 1, 9);
        due("replicas after all cells were written again", x.replicas(0), 0b00010);
    }

    private static void staleNeverCountsInTheOrder() {
        sentence("Replicas that missed a write are stale and never count for anything again");
        ChunkCluster x = staleOnServer0();
        x.create(1);
        due("replicas of the next file", x.replicas(1), 0b00101);
    }

    private static void staleNeverCountsForHeal() {
        sentence("Replicas that missed a write are stale and never count for anything again");
        ChunkCluster x = staleOnServer0();
        due("heal", x.heal(), 1);
        due("replicas, server 0 has a new one", x.replicas(0), 0b00011);
        x.crash(1);
        due("read of the write that was missed", x.read(0, 1), 2);
    }

    private static void staleIsNotTakenOverBySnapshot() {
        sentence("Replicas that missed a write are stale and never count for anything again");
        ChunkCluster x = staleOnServer0();
        due("snapshot", x.snapshot(0, 1), 1);
        due("replicas", x.replicas(1), 0b00010);
    }

    private static ChunkCluster damagedOnServer0() {
        ChunkCluster x = new ChunkCluster(2);
        x.create(0);
        x.append(0, 1);
        x.damage(0, 0);
        return x;
    }

    private static void damagedNeverCounts() {
        sentence("nor do damaged ones");
        due("replicas", damagedOnServer0().replicas(0), 0b00010);
        due("write", damagedOnServer0().write(0, 0, 9), 1);
        due("loseDisk", damagedOnServer0().loseDisk(0), 0);
        due("damage", damagedOnServer0().damage(0, 0), 0);
        due("snapshot", damagedOnServer0().snapshot(0, 1), 1);
        due("heal", damagedOnServer0().heal(), 1);
        ChunkCluster x = damagedOnServer0();
        x.create(1);
        due("replicas of the next file", x.replicas(1), 0b00101);
        x.crash(1);
        due("read", x.read(0, 0), ChunkCluster.UNAVAILABLE);
        ChunkCluster y = damagedOnServer0();
        crash(y, 0, 1);
        restart(y, 0);
        due("read after a restart", y.read(0, 0), ChunkCluster.UNAVAILABLE);
    }

    private static void fewerReplicasFirst() {
        sentence("those with fewer current replicas (over all files) first");
        ChunkCluster x = new ChunkCluster(1);
        for (int file = 0; file < 4; file++) {
            x.create(file);
            due("replicas(" + file + ")", x.replicas(file), 1 << file);
        }
        x.remove(0);
        x.create(0);
        due("server 0 has none again", x.replicas(0), 0b00001);
        x.remove(0);
        x.snapshot(3, 0);
        x.remove(1);
        x.create(1);
        due("servers 0, 1 and 4 have none", x.replicas(1), 0b00001);
        x.remove(2);
        x.create(2);
        due("servers 1, 2 and 4 have none", x.replicas(2), 0b00010);
    }

    private static void replicasOverAllFiles() {
        sentence("those with fewer current replicas (over all files) first");
        ChunkCluster x = new ChunkCluster(2);
        x.create(3);
        x.create(2);
        x.create(1);
        due("replicas of the third file", x.replicas(1), 0b10001);
        x.create(0);
        due("replicas of the fourth file", x.replicas(0), 0b00110);

        ChunkCluster y = new ChunkCluster(1);
        y.create(0);
        y.crash(0);
        y.create(1);
        y.restart(0);
        y.create(2);
        due("a replica counts though its server was down", y.replicas(2), 0b00100);
    }

    private static void equallyManySmallerNumberFirst() {
        sentence("of equally many the one with the smaller number");
        ChunkCluster x = new ChunkCluster(1);
        crash(x, 0, 1);
        x.create(0);
        due("none has any, 2 to 4 are up", x.replicas(0), 0b00100);
        restart(x, 1);
        x.create(1);
        due("1, 3 and 4 have none", x.replicas(1), 0b00010);
        crash(x, 3, 4);
        x.create(2);
        due("1 and 2 have one each", x.replicas(2), 0b00010);
        x.create(3);
        due("2 has one, 1 has two", x.replicas(3), 0b00100);
    }

    private static void availableByOneServer() {
        sentence("A file is AVAILABLE if some server that is up has a current replica of it.");
        for (int only = 0; only < 3; only++) {
            ChunkCluster x = new ChunkCluster(3);
            x.create(0);
            x.append(0, 33);
            crashAll(x);
            due("length, none up", x.length(0), ChunkCluster.UNAVAILABLE);
            x.restart(only);
            due("length, server " + only + " up", x.length(0), 1);
            due("read, server " + only + " up", x.read(0, 0), 33);
        }
    }

    private static void notAvailableByOtherServers() {
        sentence("A file is AVAILABLE if some server that is up has a current replica of it.");
        ChunkCluster x = new ChunkCluster(3);
        x.create(0);
        crash(x, 0, 1, 2);
        due("length, 3 and 4 are up", x.length(0), ChunkCluster.UNAVAILABLE);
        due("length of a file without replicas", bare().length(0), ChunkCluster.UNAVAILABLE);
    }

    private static void badServers() {
        sentence("a server not in 0 to 4 [...] is BAD_NUMBER");
        for (int server : BAD_SERVERS) {
            String of = "(" + server + ")";
            changesNothing("crash" + of, TermsTest::busy, x -> x.crash(server), ChunkCluster.BAD_NUMBER);
            changesNothing("restart" + of, TermsTest::busy, x -> x.restart(server), ChunkCluster.BAD_NUMBER);
            changesNothing("loseDisk" + of, TermsTest::busy, x -> x.loseDisk(server), ChunkCluster.BAD_NUMBER);
            changesNothing("damage" + of, TermsTest::busy, x -> x.damage(server, 0), ChunkCluster.BAD_NUMBER);
        }
    }

    private static void badFiles() {
        sentence("a file not in 0 to 3 is BAD_NUMBER");
        for (int file : BAD_FILES) {
            String of = "(" + file + ")";
            changesNothing("create" + of, TermsTest::busy, x -> x.create(file), ChunkCluster.BAD_NUMBER);
            changesNothing("remove" + of, TermsTest::busy, x -> x.remove(file), ChunkCluster.BAD_NUMBER);
            changesNothing("write" + of, TermsTest::busy, x -> x.write(file, 0, 1), ChunkCluster.BAD_NUMBER);
            changesNothing("append" + of, TermsTest::busy, x -> x.append(file, 1), ChunkCluster.BAD_NUMBER);
            changesNothing("snapshot from" + of, TermsTest::busy, x -> x.snapshot(file, 3), ChunkCluster.BAD_NUMBER);
            changesNothing("snapshot to" + of, TermsTest::busy, x -> x.snapshot(0, file), ChunkCluster.BAD_NUMBER);
            changesNothing("damage" + of, TermsTest::busy, x -> x.damage(0, file), ChunkCluster.BAD_NUMBER);
            changesNothing("read" + of, TermsTest::busy, x -> x.read(file, 0), ChunkCluster.BAD_NUMBER);
            changesNothing("length" + of, TermsTest::busy, x -> x.length(file), ChunkCluster.BAD_NUMBER);
            changesNothing("replicas" + of, TermsTest::busy, x -> x.replicas(file), ChunkCluster.BAD_NUMBER);
        }
    }

    private static void badNumberIsFirst() {
        sentence("is BAD_NUMBER, tested first");
        for (int file : BAD_FILES) {
            due("create, no server up", busyAndDown().create(file), ChunkCluster.BAD_NUMBER);
            due("write, bad cell", busy().write(file, 6, 1), ChunkCluster.BAD_NUMBER);
            due("read, bad cell", busy().read(file, -1), ChunkCluster.BAD_NUMBER);
            due("snapshot, no from", busy().snapshot(3, file), ChunkCluster.BAD_NUMBER);
            due("snapshot, to exists", busy().snapshot(file, 0), ChunkCluster.BAD_NUMBER);
            due("snapshot, from unavailable", busy().snapshot(1, file), ChunkCluster.BAD_NUMBER);
            due("snapshot, both bad", busy().snapshot(file, file), ChunkCluster.BAD_NUMBER);
        }
        for (int server : BAD_SERVERS) {
            due("damage, no file", busy().damage(server, 3), ChunkCluster.BAD_NUMBER);
            due("damage, both bad", busy().damage(server, 4), ChunkCluster.BAD_NUMBER);
        }
    }

    private static void refusedCallsChangeNothing() {
        sentence("a refused call changes nothing");
        State s = TermsTest::busy;
        changesNothing("create(0)", s, x -> x.create(0), ChunkCluster.EXISTS);
        changesNothing("create(1)", s, x -> x.create(1), ChunkCluster.EXISTS);
        changesNothing("create(2)", s, x -> x.create(2), ChunkCluster.EXISTS);
        changesNothing("remove(3)", s, x -> x.remove(3), ChunkCluster.NO_FILE);
        changesNothing("write(3, 0, 1)", s, x -> x.write(3, 0, 1), ChunkCluster.NO_FILE);
        changesNothing("write(1, 0, 1)", s, x -> x.write(1, 0, 1), ChunkCluster.UNAVAILABLE);
        changesNothing("append(3, 1)", s, x -> x.append(3, 1), ChunkCluster.NO_FILE);
        changesNothing("append(1, 1)", s, x -> x.append(1, 1), ChunkCluster.UNAVAILABLE);
        changesNothing("append(2, 1)", s, x -> x.append(2, 1), ChunkCluster.FULL);
        changesNothing("snapshot(3, 0)", s, x -> x.snapshot(3, 0), ChunkCluster.NO_FILE);
        changesNothing("snapshot(3, 3)", s, x -> x.snapshot(3, 3), ChunkCluster.NO_FILE);
        changesNothing("snapshot(0, 2)", s, x -> x.snapshot(0, 2), ChunkCluster.EXISTS);
        changesNothing("snapshot(0, 0)", s, x -> x.snapshot(0, 0), ChunkCluster.EXISTS);
        changesNothing("snapshot(1, 3)", s, x -> x.snapshot(1, 3), ChunkCluster.UNAVAILABLE);
        changesNothing("damage(0, 3)", s, x -> x.damage(0, 3), ChunkCluster.NO_FILE);
        for (int cell : BAD_CELLS) {
            String name = "write(0, " + cell + ", 1)";
            changesNothing(name, s, x -> x.write(0, cell, 1), ChunkCluster.BAD_CELL);
        }
    }

    private static void refusedWithoutAnyServerUp() {
        sentence("a refused call changes nothing");
        State s = TermsTest::busyAndDown;
        changesNothing("create(3)", s, x -> x.create(3), ChunkCluster.NO_SERVER);
        changesNothing("create(0)", s, x -> x.create(0), ChunkCluster.EXISTS);
        changesNothing("write(0, 0, 1)", s, x -> x.write(0, 0, 1), ChunkCluster.UNAVAILABLE);
        changesNothing("append(0, 1)", s, x -> x.append(0, 1), ChunkCluster.UNAVAILABLE);
        changesNothing("append(2, 1)", s, x -> x.append(2, 1), ChunkCluster.UNAVAILABLE);
        changesNothing("snapshot(0, 3)", s, x -> x.snapshot(0, 3), ChunkCluster.UNAVAILABLE);
    }

    private static void refusedForAFileWithoutReplicas() {
        sentence("a refused call changes nothing");
        State s = TermsTest::bare;
        changesNothing("create(0)", s, x -> x.create(0), ChunkCluster.EXISTS);
        changesNothing("write(0, 0, 1)", s, x -> x.write(0, 0, 1), ChunkCluster.UNAVAILABLE);
        changesNothing("append(0, 1)", s, x -> x.append(0, 1), ChunkCluster.UNAVAILABLE);
        changesNothing("snapshot(0, 1)", s, x -> x.snapshot(0, 1), ChunkCluster.UNAVAILABLE);
    }

    private static void queriesChangeNothing() {
        sentence("The calls below change nothing. BAD_NUMBER first.");
        State s = TermsTest::busy;
        changesNothing("read(0, 2)", s, x -> x.read(0, 2), -7);
        changesNothing("read(0, 5)", s, x -> x.read(0, 5), 0);
        changesNothing("read(0, 6)", s, x -> x.read(0, 6), ChunkCluster.BAD_CELL);
        changesNothing("read(1, 0)", s, x -> x.read(1, 0), ChunkCluster.UNAVAILABLE);
        changesNothing("read(3, 0)", s, x -> x.read(3, 0), ChunkCluster.NO_FILE);
        changesNothing("length(0)", s, x -> x.length(0), 3);
        changesNothing("length(1)", s, x -> x.length(1), ChunkCluster.UNAVAILABLE);
        changesNothing("length(3)", s, x -> x.length(3), ChunkCluster.NO_FILE);
        changesNothing("replicas(0)", s, x -> x.replicas(0), 0b00011);
        changesNothing("replicas(1)", s, x -> x.replicas(1), 0b01100);
        changesNothing("replicas(2)", s, x -> x.replicas(2), 0b10001);
        changesNothing("replicas(3)", s, x -> x.replicas(3), ChunkCluster.NO_FILE);
    }
}
