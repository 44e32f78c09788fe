/** Promise 14: replicas. */
public final class P14ReplicasTest extends Sentences {
    public static void main(String[] args) {
        mask();
        allAndNone();
        upOrDown();
        badNumber();
        noFile();
        end();
    }

    private static void mask() {
        sentence("The servers that have a current replica of the file [...] as a mask");
        for (int only = 0; only < 5; only++) {
            ChunkCluster x = new ChunkCluster(3);
            crashAll(x);
            x.restart(only);
            x.create(0);
            due("replicas(0) on server " + only, x.replicas(0), 1 << only);
        }
        ChunkCluster y = new ChunkCluster(3);
        y.create(0);
        y.create(1);
        due("replicas(0)", y.replicas(0), 0b00111);
        due("replicas(1)", y.replicas(1), 0b11001);
    }

    private static void allAndNone() {
        sentence("The servers that have a current replica of the file [...] as a mask");
        ChunkCluster x = new ChunkCluster(3);
        x.create(0);
        crash(x, 0, 1);
        x.heal();
        due("replicas(0), on all servers", x.replicas(0), 0b11111);
        for (int server = 0; server < 5; server++) {
            x.loseDisk(server);
        }
        due("replicas(0), on none", x.replicas(0), 0);
        due("replicas(0) of a file without replicas", bare().replicas(0), 0);
    }

    private static void upOrDown() {
        sentence("up or down");
        due("replicas(0), one of two is down", busy().replicas(0), 0b00011);
        due("replicas(1), both are down: not UNAVAILABLE", busy().replicas(1), 0b01100);
        due("replicas(0), no server is up", busyAndDown().replicas(0), 0b00011);
        ChunkCluster x = busyAndDown();
        restartAll(x);
        due("replicas(0), all servers are up", x.replicas(0), 0b00011);
    }

    private static void badNumber() {
        sentence("replicas: BAD_NUMBER");
        for (int file : BAD_FILES) {
            due("replicas(" + file + ")", busy().replicas(file), ChunkCluster.BAD_NUMBER);
        }
    }

    private static void noFile() {
        sentence("replicas: NO_FILE");
        for (int file = 0; file < 4; file++) {
            due("replicas(" + file + ")", new ChunkCluster(1).replicas(file), ChunkCluster.NO_FILE);
        }
        due("replicas(3)", busy().replicas(3), ChunkCluster.NO_FILE);
        due("replicas(3), no server is up", busyAndDown().replicas(3), ChunkCluster.NO_FILE);
    }
}
