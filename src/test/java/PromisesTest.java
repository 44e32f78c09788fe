import static java.lang.Integer.MAX_VALUE;
import static java.lang.Integer.MIN_VALUE;

/** Each promise of the document: ordinary inputs, the edges it names, and wrong inputs. */
public final class PromisesTest {
    private static final Check CHECK = new Check();
    private static final int[] BAD_FILES = {-1, 4, MIN_VALUE, MAX_VALUE};
    private static final int[] BAD_SERVERS = {-1, 5, MIN_VALUE, MAX_VALUE};
    private static final int[] BAD_CELLS = {-1, 6, MIN_VALUE, MAX_VALUE};

    public static void main(String[] args) {
        newObject();
        create();
        createFollowsTheOrderOfServers();
        remove();
        write();
        writeMakesMissedReplicasStale();
        append();
        snapshot();
        snapshotKeepsReplicasOnDownServers();
        crash();
        restart();
        loseDisk();
        damage();
        heal();
        healLeavesSomeFilesAlone();
        healAsksForTheOrderEachTime();
        read();
        length();
        replicas();
        orderOfRefusals();
        badNumbersComeFirst();
        refusedCallsChangeNothing();
        CHECK.end();
    }

    private static void due(String call, long got, long want) {
        CHECK.due(call, got, want);
    }

    private static void crashAll(ChunkCluster x) {
        for (int server = 0; server < 5; server++) {
            x.crash(server);
        }
    }

    private static void restartAll(ChunkCluster x) {
        for (int server = 0; server < 5; server++) {
            x.restart(server);
        }
    }

    private static void newObject() {
        int[] copies = {MIN_VALUE, -1, 0, 1, 2, 3, 4, 5, MAX_VALUE};
        int[] want = {1, 1, 1, 1, 2, 3, 3, 3, 3};
        for (int i = 0; i < copies.length; i++) {
            ChunkCluster x = new ChunkCluster(copies[i]);
            for (int file = 0; file < 4; file++) {
                due("P1 no files: replicas", x.replicas(file), ChunkCluster.NO_FILE);
            }
            for (int server = 0; server < 5; server++) {
                due("P1 all up: restart", x.restart(server), 0);
            }
            due("P1 heal of nothing", x.heal(), 0);
            due("P1 copies " + copies[i], x.create(0), want[i]);
        }
    }

    private static void create() {
        ChunkCluster x = new ChunkCluster(3);
        due("P2 create", x.create(0), 3);
        due("P2 its replicas", x.replicas(0), 0b00111);
        due("P2 its length", x.length(0), 0);
        for (int cell = 0; cell < 6; cell++) {
            due("P2 its cells", x.read(0, cell), 0);
        }
        due("P2 again", x.create(0), ChunkCluster.EXISTS);
        for (int file : BAD_FILES) {
            due("P2 bad file", x.create(file), ChunkCluster.BAD_NUMBER);
        }
        x.crash(0);
        x.crash(2);
        x.crash(3);
        due("P2 fewer up than copies", x.create(1), 2);
        due("P2 only servers that are up", x.replicas(1), 0b10010);
        crashAll(x);
        due("P2 none is up", x.create(2), ChunkCluster.NO_SERVER);
        due("P2 refused, so no file", x.replicas(2), ChunkCluster.NO_FILE);
    }

    private static void createFollowsTheOrderOfServers() {
        ChunkCluster x = new ChunkCluster(2);
        x.create(0);
        due("P2 order, first file", x.replicas(0), 0b00011);
        x.create(1);
        due("P2 order, second file", x.replicas(1), 0b01100);
        x.create(2);
        due("P2 order, fewest before smallest", x.replicas(2), 0b10001);
        x.create(3);
        due("P2 order, all equal but server 0", x.replicas(3), 0b00110);
        x.remove(0);
        x.remove(1);
        x.create(0);
        due("P2 removed files count for nothing", x.replicas(0), 0b01001);

        ChunkCluster y = new ChunkCluster(1);
        y.create(0);
        y.create(1);
        y.damage(0, 0);
        y.create(2);
        due("P2 damaged replicas count for nothing", y.replicas(2), 0b00001);

        ChunkCluster z = new ChunkCluster(3);
        z.create(0);
        z.crash(1);
        z.write(0, 0, 7);
        z.restart(1);
        z.create(1);
        due("P2 stale replicas count for nothing", z.replicas(1), 0b11010);

        ChunkCluster d = new ChunkCluster(1);
        d.create(0);
        d.crash(0);
        d.create(1);
        d.restart(0);
        d.create(2);
        due("P2 replicas kept while down do count", d.replicas(2), 0b00100);
    }

    private static void remove() {
        ChunkCluster x = new ChunkCluster(2);
        due("P3 no file", x.remove(0), ChunkCluster.NO_FILE);
        for (int file : BAD_FILES) {
            due("P3 bad file", x.remove(file), ChunkCluster.BAD_NUMBER);
        }
        x.create(0);
        x.create(1);
        x.write(0, 5, 9);
        x.write(1, 2, 8);
        due("P3 remove", x.remove(0), 0);
        due("P3 gone", x.replicas(0), ChunkCluster.NO_FILE);
        due("P3 twice", x.remove(0), ChunkCluster.NO_FILE);
        due("P3 the other stays", x.read(1, 2), 8);
        due("P3 create anew", x.create(0), 2);
        due("P3 empty anew", x.length(0), 0);
        due("P3 cells 0 anew", x.read(0, 5), 0);
        crashAll(x);
        due("P3 of a file that is not available", x.remove(0), 0);
        due("P3 its replicas on down servers are gone too", x.loseDisk(0), 0);
    }

    private static void write() {
        ChunkCluster x = new ChunkCluster(3);
        due("P4 no file", x.write(0, 0, 1), ChunkCluster.NO_FILE);
        x.create(0);
        x.create(1);
        due("P4 write", x.write(0, 3, 55), 3);
        due("P4 value", x.read(0, 3), 55);
        due("P4 length", x.length(0), 4);
        due("P4 lower cell", x.write(0, 0, -1), 3);
        due("P4 length stays", x.length(0), 4);
        due("P4 same cell again", x.write(0, 3, MIN_VALUE), 3);
        due("P4 new value", x.read(0, 3), MIN_VALUE);
        due("P4 other cell", x.read(0, 0), -1);
        due("P4 skipped cell", x.read(0, 1), 0);
        due("P4 last cell", x.write(0, 5, MAX_VALUE), 3);
        due("P4 last value", x.read(0, 5), MAX_VALUE);
        due("P4 greatest length", x.length(0), 6);
        due("P4 other file", x.read(1, 0), 0);
        due("P4 other length", x.length(1), 0);
        for (int cell : BAD_CELLS) {
            due("P4 bad cell", x.write(0, cell, 1), ChunkCluster.BAD_CELL);
        }
        for (int file : BAD_FILES) {
            due("P4 bad file", x.write(file, 0, 1), ChunkCluster.BAD_NUMBER);
        }
        crashAll(x);
        due("P4 unavailable", x.write(0, 0, 1), ChunkCluster.UNAVAILABLE);
        due("P4 refused, so still current", x.replicas(0), 0b00111);
    }

    private static void writeMakesMissedReplicasStale() {
        ChunkCluster x = new ChunkCluster(3);
        x.create(0);
        x.crash(1);
        due("P4 down but current", x.replicas(0), 0b00111);
        due("P4 only those up get it", x.write(0, 0, 4), 2);
        due("P4 the one down is stale", x.replicas(0), 0b00101);
        x.restart(1);
        due("P4 stale for good", x.replicas(0), 0b00101);
        due("P4 stale gets no write", x.write(0, 0, 5), 2);
        x.crash(0);
        x.crash(2);
        due("P4 stale doesn't make available", x.write(0, 0, 6), ChunkCluster.UNAVAILABLE);
        x.restart(2);
        due("P4 back again", x.read(0, 0), 5);
        due("P4 even the same value is a write", x.write(0, 0, 5), 1);
        due("P4 server 0 missed it", x.replicas(0), 0b00100);
    }

    private static void append() {
        ChunkCluster x = new ChunkCluster(2);
        due("P5 no file", x.append(0, 1), ChunkCluster.NO_FILE);
        x.create(0);
        for (int cell = 0; cell < 6; cell++) {
            due("P5 append", x.append(0, 10 + cell), cell);
            due("P5 length", x.length(0), cell + 1);
            due("P5 value", x.read(0, cell), 10 + cell);
        }
        due("P5 full", x.append(0, 99), ChunkCluster.FULL);
        due("P5 refused, so last cell stays", x.read(0, 5), 15);
        for (int file : BAD_FILES) {
            due("P5 bad file", x.append(file, 1), ChunkCluster.BAD_NUMBER);
        }
        x.create(1);
        x.write(1, 3, 7);
        due("P5 after the highest cell written", x.append(1, 8), 4);
        x.crash(2);
        due("P5 while a server is down", x.append(1, 9), 5);
        due("P5 it is stale then", x.replicas(1), 0b01000);
        due("P5 full while a server is down", x.append(0, 1), ChunkCluster.FULL);
        x.crash(0);
        due("P5 full", x.append(0, 1), ChunkCluster.FULL);
        due("P5 refused, so nothing is stale", x.replicas(0), 0b00011);
        x.create(2);
        crashAll(x);
        due("P5 unavailable", x.append(2, 1), ChunkCluster.UNAVAILABLE);
    }

    private static void snapshot() {
        ChunkCluster x = new ChunkCluster(3);
        due("P6 no file", x.snapshot(0, 1), ChunkCluster.NO_FILE);
        due("P6 no file, onto itself", x.snapshot(0, 0), ChunkCluster.NO_FILE);
        x.create(0);
        for (int cell = 0; cell < 5; cell++) {
            x.write(0, cell, 20 + cell);
        }
        due("P6 onto itself", x.snapshot(0, 0), ChunkCluster.EXISTS);
        due("P6 snapshot", x.snapshot(0, 3), 3);
        due("P6 same servers", x.replicas(3), 0b00111);
        due("P6 same length", x.length(3), 5);
        for (int cell = 0; cell < 6; cell++) {
            due("P6 same cells", x.read(3, cell), x.read(0, cell));
        }
        due("P6 to exists", x.snapshot(0, 3), ChunkCluster.EXISTS);
        x.write(0, 5, 1);
        x.write(3, 0, 2);
        due("P6 independent cells of to", x.read(3, 5), 0);
        due("P6 independent length of to", x.length(3), 5);
        due("P6 independent cells of from", x.read(0, 0), 20);
        x.damage(0, 3);
        due("P6 independent replicas", x.replicas(0), 0b00111);
        x.remove(0);
        due("P6 from may go", x.read(3, 1), 21);
        for (int file : BAD_FILES) {
            due("P6 bad from", x.snapshot(file, 1), ChunkCluster.BAD_NUMBER);
            due("P6 bad to", x.snapshot(3, file), ChunkCluster.BAD_NUMBER);
            due("P6 both bad", x.snapshot(file, file), ChunkCluster.BAD_NUMBER);
        }
        x.create(1);
        x.write(1, 0, 77);
        x.remove(1);
        x.create(0);
        due("P6 over a removed file's old cells", x.snapshot(0, 1), 3);
        due("P6 nothing of the old cells", x.read(1, 0), 0);
        due("P6 nothing of the old length", x.length(1), 0);
    }

    private static void snapshotKeepsReplicasOnDownServers() {
        ChunkCluster x = new ChunkCluster(3);
        x.create(0);
        x.append(0, 5);
        x.damage(2, 0);
        x.crash(0);
        due("P6 counts those that are down", x.snapshot(0, 1), 2);
        due("P6 up or down, not the damaged one", x.replicas(1), 0b00011);
        x.crash(1);
        due("P6 unavailable", x.snapshot(0, 2), ChunkCluster.UNAVAILABLE);
        due("P6 refused, so no file", x.replicas(2), ChunkCluster.NO_FILE);
        x.restart(0);
        due("P6 readable where it was down", x.read(1, 0), 5);
    }

    private static void crash() {
        ChunkCluster x = new ChunkCluster(1);
        for (int server = 0; server < 5; server++) {
            due("P7 crash", x.crash(server), 1);
            due("P7 twice", x.crash(server), 0);
        }
        for (int server : BAD_SERVERS) {
            due("P7 bad server", x.crash(server), ChunkCluster.BAD_NUMBER);
        }
        restartAll(x);
        x.create(0);
        x.append(0, 3);
        x.crash(0);
        due("P7 down: unavailable", x.read(0, 0), ChunkCluster.UNAVAILABLE);
        due("P7 down: keeps its disk", x.replicas(0), 0b00001);
    }

    private static void restart() {
        ChunkCluster x = new ChunkCluster(1);
        x.create(0);
        x.append(0, 3);
        for (int server = 0; server < 5; server++) {
            due("P8 up already", x.restart(server), 0);
            x.crash(server);
            due("P8 restart", x.restart(server), 1);
            due("P8 twice", x.restart(server), 0);
        }
        for (int server : BAD_SERVERS) {
            due("P8 bad server", x.restart(server), ChunkCluster.BAD_NUMBER);
        }
        due("P8 the disk is as it was", x.read(0, 0), 3);
    }

    private static void loseDisk() {
        ChunkCluster x = new ChunkCluster(3);
        x.create(0);
        x.snapshot(0, 1);
        x.snapshot(0, 2);
        x.snapshot(0, 3);
        x.damage(0, 2);
        due("P9 only current ones count", x.loseDisk(0), 3);
        for (int file = 0; file < 4; file++) {
            due("P9 lost", x.replicas(file), 0b00110);
        }
        due("P9 nothing left", x.loseDisk(0), 0);
        due("P9 stays up", x.restart(0), 0);
        x.crash(1);
        due("P9 of a server that is down", x.loseDisk(1), 4);
        due("P9 stays down", x.crash(1), 0);
        due("P9 of a server with nothing", x.loseDisk(4), 0);
        due("P9 the last", x.loseDisk(2), 4);
        due("P9 the file exists still", x.replicas(0), 0);
        due("P9 but is unavailable", x.length(0), ChunkCluster.UNAVAILABLE);
        due("P9 and exists for create", x.create(0), ChunkCluster.EXISTS);
        for (int server : BAD_SERVERS) {
            due("P9 bad server", x.loseDisk(server), ChunkCluster.BAD_NUMBER);
        }
    }

    private static void damage() {
        ChunkCluster x = new ChunkCluster(3);
        due("P10 no file", x.damage(0, 0), ChunkCluster.NO_FILE);
        x.create(0);
        x.snapshot(0, 1);
        due("P10 damage", x.damage(1, 0), 1);
        due("P10 no longer current", x.replicas(0), 0b00101);
        due("P10 the other file's is", x.replicas(1), 0b00111);
        due("P10 twice", x.damage(1, 0), 0);
        due("P10 server without the file", x.damage(4, 0), 0);
        due("P10 gets no write", x.write(0, 0, 1), 2);
        x.crash(2);
        due("P10 on a server that is down", x.damage(2, 0), 1);
        due("P10 only server 0", x.replicas(0), 0b00001);
        due("P10 the last one", x.damage(0, 0), 1);
        due("P10 the file exists still", x.replicas(0), 0);
        due("P10 but is unavailable", x.read(0, 0), ChunkCluster.UNAVAILABLE);
        for (int bad : BAD_SERVERS) {
            due("P10 bad server", x.damage(bad, 0), ChunkCluster.BAD_NUMBER);
            due("P10 bad server, no file", x.damage(bad, 3), ChunkCluster.BAD_NUMBER);
        }
        for (int bad : BAD_FILES) {
            due("P10 bad file", x.damage(0, bad), ChunkCluster.BAD_NUMBER);
        }
        crashAll(x);
        due("P10 of a file that is not available", x.damage(1, 1), 1);
        due("P10 that one too is no longer current", x.replicas(1), 0b00101);
    }

    private static void heal() {
        ChunkCluster x = new ChunkCluster(3);
        x.create(0);
        x.append(0, 6);
        due("P11 nothing to do", x.heal(), 0);
        x.damage(1, 0);
        due("P11 heal", x.heal(), 1);
        due("P11 the damaged one is as good as none", x.replicas(0), 0b00111);
        x.crash(0);
        x.crash(1);
        due("P11 those down don't suffice", x.heal(), 2);
        due("P11 those down stay current", x.replicas(0), 0b11111);
        x.restart(0);
        x.restart(1);
        due("P11 more than copies stay", x.heal(), 0);
        due("P11 all of them", x.replicas(0), 0b11111);
        due("P11 all get the write", x.write(0, 1, 7), 5);
        x.crash(0);
        x.crash(1);
        x.crash(2);
        due("P11 no server is left", x.heal(), 0);
        due("P11 the two", x.write(0, 2, 8), 2);
        x.restart(0);
        due("P11 a stale one gets a new one", x.heal(), 1);
        x.crash(3);
        x.crash(4);
        due("P11 the new one has the old writes", x.read(0, 0), 6);
        due("P11 and the last", x.read(0, 2), 8);
        due("P11 and the length", x.length(0), 3);
    }

    private static void healLeavesSomeFilesAlone() {
        ChunkCluster x = new ChunkCluster(2);
        x.create(0);
        x.create(1);
        x.crash(0);
        x.crash(1);
        due("P11 a file that is not available", x.heal(), 0);
        due("P11 stays as it is", x.replicas(0), 0b00011);
        x.loseDisk(0);
        x.loseDisk(1);
        restartAll(x);
        due("P11 a file without a replica", x.heal(), 0);
        due("P11 has none", x.replicas(0), 0);
        due("P11 a file that doesn't exist", x.replicas(2), ChunkCluster.NO_FILE);
        x.remove(1);
        due("P11 a removed file", x.heal(), 0);
        due("P11 stays removed", x.replicas(1), ChunkCluster.NO_FILE);
    }

    private static void healAsksForTheOrderEachTime() {
        ChunkCluster x = new ChunkCluster(2);
        x.create(0);
        x.snapshot(0, 1);
        x.snapshot(0, 2);
        x.snapshot(0, 3);
        x.loseDisk(1);
        due("P11 all four files", x.heal(), 4);
        due("P11 file 0 first", x.replicas(0), 0b00011);
        due("P11 then file 1", x.replicas(1), 0b00101);
        due("P11 then file 2", x.replicas(2), 0b01001);
        due("P11 then file 3", x.replicas(3), 0b10001);

        ChunkCluster y = new ChunkCluster(3);
        y.create(0);
        y.create(1);
        y.damage(3, 1);
        y.damage(4, 1);
        y.damage(0, 0);
        y.damage(1, 0);
        due("P11 two replicas each", y.heal(), 4);
        due("P11 file 0 takes the empty ones", y.replicas(0), 0b01110);
        due("P11 file 1 takes the next", y.replicas(1), 0b10011);
    }

    private static void read() {
        ChunkCluster x = new ChunkCluster(1);
        due("P12 no file", x.read(0, 0), ChunkCluster.NO_FILE);
        x.create(0);
        x.write(0, 2, -3);
        due("P12 a value like a refusal", x.read(0, 2), -3);
        due("P12 beyond the length", x.read(0, 5), 0);
        due("P12 changes nothing", x.length(0), 3);
        for (int cell : BAD_CELLS) {
            due("P12 bad cell", x.read(0, cell), ChunkCluster.BAD_CELL);
        }
        for (int file : BAD_FILES) {
            due("P12 bad file", x.read(file, 0), ChunkCluster.BAD_NUMBER);
        }
        x.crash(0);
        due("P12 unavailable", x.read(0, 2), ChunkCluster.UNAVAILABLE);
    }

    private static void length() {
        ChunkCluster x = new ChunkCluster(1);
        due("P13 no file", x.length(3), ChunkCluster.NO_FILE);
        x.create(3);
        due("P13 at first", x.length(3), 0);
        x.append(3, 0);
        due("P13 after a 0", x.length(3), 1);
        x.write(3, 5, 0);
        due("P13 greatest", x.length(3), 6);
        for (int file : BAD_FILES) {
            due("P13 bad file", x.length(file), ChunkCluster.BAD_NUMBER);
        }
        x.crash(0);
        due("P13 unavailable", x.length(3), ChunkCluster.UNAVAILABLE);
    }

    private static void replicas() {
        ChunkCluster x = new ChunkCluster(3);
        due("P14 no file", x.replicas(2), ChunkCluster.NO_FILE);
        x.create(2);
        due("P14 mask", x.replicas(2), 0b00111);
        x.create(3);
        due("P14 the highest bits", x.replicas(3), 0b11001);
        crashAll(x);
        due("P14 up or down", x.replicas(2), 0b00111);
        for (int file : BAD_FILES) {
            due("P14 bad file", x.replicas(file), ChunkCluster.BAD_NUMBER);
        }
    }

    private static void orderOfRefusals() {
        ChunkCluster x = new ChunkCluster(1);
        x.create(0);
        x.write(0, 5, 1);
        crashAll(x);
        due("P15 write: UNAVAILABLE before BAD_CELL", x.write(0, 6, 1), ChunkCluster.UNAVAILABLE);
        due("P15 read: UNAVAILABLE before BAD_CELL", x.read(0, -1), ChunkCluster.UNAVAILABLE);
        due("P15 append: UNAVAILABLE before FULL", x.append(0, 1), ChunkCluster.UNAVAILABLE);
        due("P15 create: EXISTS before NO_SERVER", x.create(0), ChunkCluster.EXISTS);
        due("P15 snapshot: NO_FILE before EXISTS", x.snapshot(1, 0), ChunkCluster.NO_FILE);
        due("P15 snapshot: EXISTS before UNAVAILABLE", x.snapshot(0, 0), ChunkCluster.EXISTS);
        due("P15 snapshot: UNAVAILABLE", x.snapshot(0, 1), ChunkCluster.UNAVAILABLE);
        due("P15 write: NO_FILE before BAD_CELL", x.write(1, 6, 1), ChunkCluster.NO_FILE);
        due("P15 read: NO_FILE before BAD_CELL", x.read(1, 6), ChunkCluster.NO_FILE);
    }

    private static void badNumbersComeFirst() {
        ChunkCluster x = new ChunkCluster(1);
        x.create(0);
        crashAll(x);
        for (int file : BAD_FILES) {
            due("P15 create: BAD_NUMBER before NO_SERVER", x.create(file), ChunkCluster.BAD_NUMBER);
            due("P15 write: BAD_NUMBER before BAD_CELL", x.write(file, 6, 1), ChunkCluster.BAD_NUMBER);
            due("P15 read: BAD_NUMBER before BAD_CELL", x.read(file, 6), ChunkCluster.BAD_NUMBER);
            due("P15 snapshot: BAD_NUMBER before NO_FILE", x.snapshot(1, file), ChunkCluster.BAD_NUMBER);
            due("P15 snapshot: BAD_NUMBER before EXISTS", x.snapshot(file, 0), ChunkCluster.BAD_NUMBER);
            due("P15 snapshot: BAD_NUMBER before UNAVAILABLE", x.snapshot(0, file), ChunkCluster.BAD_NUMBER);
        }
        for (int server : BAD_SERVERS) {
            due("P15 damage: BAD_NUMBER before NO_FILE", x.damage(server, 1), ChunkCluster.BAD_NUMBER);
        }
    }

    private static void refusedCallsChangeNothing() {
        ChunkCluster x = new ChunkCluster(2);
        x.create(0);
        x.write(0, 1, 31);
        x.crash(0);
        x.create(0);
        x.write(0, 6, 32);
        x.snapshot(0, 0);
        x.damage(5, 0);
        x.crash(32);
        x.crash(33);
        x.restart(32);
        x.loseDisk(33);
        due("P15 replicas as before", x.replicas(0), 0b00011);
        due("P15 length as before", x.length(0), 2);
        due("P15 cell as before", x.read(0, 1), 31);
        due("P15 server 0 is down as before", x.crash(0), 0);
        due("P15 server 1 is up as before", x.restart(1), 0);
    }
}
