/** Promise 11: heal. */
public final class P11HealTest extends Sentences {
    public static void main(String[] args) {
        filesFromZeroOn();
        notAFileThatDoesNotExist();
        notAFileThatIsNotAvailable();
        notAFileWithEnoughReplicas();
        onlyReplicasOnServersThatAreUpAreEnough();
        onlyServersThatAreUpGetOne();
        onlyServersWithoutACurrentReplicaGetOne();
        orderAtThatMoment();
        orderCountsWhatHealItselfMade();
        untilThereAreEnough();
        untilNoServerIsLeft();
        newReplicasHaveAllWrites();
        answersHowMany();
        nothingToMake();
        end();
    }

    private static void filesFromZeroOn() {
        sentence("Goes through the files from 0 on.");
        ChunkCluster x = new ChunkCluster(2);
        x.create(3);
        x.snapshot(3, 2);
        x.snapshot(3, 1);
        x.snapshot(3, 0);
        x.loseDisk(1);
        due("heal()", x.heal(), 4);
        due("replicas(0)", x.replicas(0), 0b00011);
        due("replicas(1)", x.replicas(1), 0b00101);
        due("replicas(2)", x.replicas(2), 0b01001);
        due("replicas(3)", x.replicas(3), 0b10001);
    }

    private static void notAFileThatDoesNotExist() {
        sentence("For each one that exists");
        ChunkCluster x = new ChunkCluster(3);
        x.create(1);
        x.append(1, 1);
        x.remove(1);
        due("heal()", x.heal(), 0);
        for (int file = 0; file < 4; file++) {
            due("replicas(" + file + ")", x.replicas(file), ChunkCluster.NO_FILE);
        }
    }

    private static void notAFileThatIsNotAvailable() {
        sentence("and is available");
        ChunkCluster x = new ChunkCluster(2);
        x.create(0);
        crash(x, 0, 1);
        due("heal(), its servers are down", x.heal(), 0);
        due("replicas(0)", x.replicas(0), 0b00011);
        ChunkCluster y = bare();
        due("heal(), it has no replica left", y.heal(), 0);
        due("replicas(0), it has no replica left", y.replicas(0), 0);
        ChunkCluster z = new ChunkCluster(2);
        z.create(0);
        crash(z, 1);
        z.append(0, 1);
        crash(z, 0);
        restart(z, 1);
        due("heal(), only a stale one is up", z.heal(), 0);
        due("replicas(0), only a stale one is up", z.replicas(0), 0b00001);
        ChunkCluster none = new ChunkCluster(2);
        none.create(0);
        crashAll(none);
        due("heal(), no server is up", none.heal(), 0);
    }

    private static void notAFileWithEnoughReplicas() {
        sentence("and has fewer than 'copies' current replicas");
        for (int copies = 1; copies <= 3; copies++) {
            ChunkCluster x = new ChunkCluster(copies);
            x.create(0);
            due("heal(), copies " + copies, x.heal(), 0);
            due("replicas(0), copies " + copies, x.replicas(0), (1 << copies) - 1);
        }
        ChunkCluster y = new ChunkCluster(2);
        y.create(0);
        y.crash(0);
        y.heal();
        y.restart(0);
        due("heal(), one more than enough", y.heal(), 0);
        due("replicas(0), one more than enough", y.replicas(0), 0b00111);
    }

    private static void onlyReplicasOnServersThatAreUpAreEnough() {
        sentence("on servers that are up");
        ChunkCluster x = new ChunkCluster(3);
        x.create(0);
        crash(x, 1);
        due("heal(), one is down", x.heal(), 1);
        due("replicas(0), the one that is down stays current", x.replicas(0), 0b01111);
        crash(x, 0);
        due("heal(), two are down", x.heal(), 1);
        due("replicas(0)", x.replicas(0), 0b11111);
    }

    private static void onlyServersThatAreUpGetOne() {
        sentence("servers that are up and have no current replica of it get one");
        ChunkCluster x = new ChunkCluster(2);
        x.create(0);
        crash(x, 2, 3);
        x.damage(1, 0);
        crash(x, 1);
        due("heal()", x.heal(), 1);
        due("replicas(0)", x.replicas(0), 0b10001);
        x.restart(1);
        due("heal() once server 1 is up", x.heal(), 0);
    }

    private static void onlyServersWithoutACurrentReplicaGetOne() {
        sentence("servers that are up and have no current replica of it get one");
        ChunkCluster x = new ChunkCluster(2);
        x.crash(1);
        x.create(0);
        x.damage(2, 0);
        x.create(1);
        x.restart(1);
        x.create(2);
        // File 0 is on server 0, file 1 on 2 and 3, file 2 on 1 and 4: server 0 is
        // the first in the order, but has file 0 already.
        due("heal()", x.heal(), 1);
        due("replicas(0)", x.replicas(0), 0b00011);
        due("replicas(1)", x.replicas(1), 0b01100);
        due("replicas(2)", x.replicas(2), 0b10010);
    }

    private static void orderAtThatMoment() {
        sentence("in the order of servers as it is at that moment for each one");
        ChunkCluster x = new ChunkCluster(3);
        x.create(0);
        x.create(1);
        x.damage(3, 1);
        x.damage(4, 1);
        x.damage(0, 0);
        x.damage(1, 0);
        due("heal()", x.heal(), 4);
        due("replicas(0): 1 and 3 have none", x.replicas(0), 0b01110);
        due("replicas(1): 4 has none, 1 has one", x.replicas(1), 0b10011);
    }

    private static void orderCountsWhatHealItselfMade() {
        sentence("in the order of servers as it is at that moment for each one");
        ChunkCluster x = new ChunkCluster(2);
        x.create(0);
        x.snapshot(0, 1);
        x.snapshot(0, 2);
        x.loseDisk(0);
        // Each file is on server 1 alone; 0, 2, 3 and 4 have none.
        crash(x, 4);
        due("heal()", x.heal(), 3);
        due("replicas(0)", x.replicas(0), 0b00011);
        due("replicas(1)", x.replicas(1), 0b00110);
        due("replicas(2)", x.replicas(2), 0b01010);
    }

    private static void untilThereAreEnough() {
        sentence("until there are enough");
        for (int copies = 1; copies <= 3; copies++) {
            ChunkCluster x = new ChunkCluster(copies);
            crash(x, 0, 1, 2, 3);
            x.create(0);
            restartAll(x);
            due("heal(), copies " + copies, x.heal(), copies - 1);
            due("replicas(0), copies " + copies, x.replicas(0), 0b10000 | (1 << (copies - 1)) - 1);
        }
    }

    private static void untilNoServerIsLeft() {
        sentence("or no such server is left");
        ChunkCluster x = new ChunkCluster(3);
        crash(x, 1, 2, 3, 4);
        x.create(0);
        due("heal(), one server is up", x.heal(), 0);
        due("replicas(0)", x.replicas(0), 0b00001);
        restart(x, 3);
        due("heal(), two servers are up", x.heal(), 1);
        due("replicas(0)", x.replicas(0), 0b01001);
        due("heal(), none is left", x.heal(), 0);
        restart(x, 1);
        due("heal(), three servers are up", x.heal(), 1);
        due("replicas(0)", x.replicas(0), 0b01011);
    }

    private static void newReplicasHaveAllWrites() {
        sentence("servers that are up and have no current replica of it get one");
        ChunkCluster x = new ChunkCluster(2);
        x.create(0);
        fill(x, 0, 80);
        x.crash(0);
        x.write(0, 5, 90);
        x.restart(0);
        due("heal(), server 0 was stale", x.heal(), 1);
        x.crash(1);
        due("length(0)", x.length(0), 6);
        for (int cell = 0; cell < 5; cell++) {
            due("read(0, " + cell + ")", x.read(0, cell), 80 + cell);
        }
        due("read(0, 5)", x.read(0, 5), 90);
    }

    private static void answersHowMany() {
        sentence("Answers how many new replicas were made.");
        ChunkCluster x = new ChunkCluster(3);
        crash(x, 0, 1, 2, 3);
        for (int file = 0; file < 4; file++) {
            x.create(file);
        }
        restartAll(x);
        due("heal(), two for each of four files", x.heal(), 8);
        due("heal() again", x.heal(), 0);
        x.damage(4, 2);
        due("heal(), one file of four", x.heal(), 1);
    }

    private static void nothingToMake() {
        sentence("Answers how many new replicas were made.");
        changesNothing("heal() of a new object", () -> new ChunkCluster(3), ChunkCluster::heal, 0);
        changesNothing("heal() with no server up", P11HealTest::busyAndDown, ChunkCluster::heal, 0);
        changesNothing("heal() of a file without replicas", P11HealTest::bare, ChunkCluster::heal, 0);
    }
}
