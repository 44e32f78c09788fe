import java.util.ArrayList;
import java.util.Comparator;
import java.util.List;
import java.util.Map;
import java.util.TreeMap;

/**
 * The document told a second time, in another way than the program does it:
 * every replica has its own cells and counts the writes it got, and it is
 * current if it got as many as the file and was not damaged.
 */
final class Model {
    private static final class Replica {
        int[] cells = new int[6];
        int length = 0;
        int writes = 0;
        boolean damaged = false;

        Replica copy() {
            Replica other = new Replica();
            other.cells = cells.clone();
            other.length = length;
            other.writes = writes;
            return other;
        }
    }

    private static final class StoredFile {
        int writes = 0;
        final Map<Integer, Replica> onServer = new TreeMap<>();

        boolean isCurrent(int server) {
            Replica replica = onServer.get(server);
            return replica != null && !replica.damaged && replica.writes == writes;
        }
    }

    private final int copies;
    private final boolean[] up = {true, true, true, true, true};
    private final Map<Integer, StoredFile> files = new TreeMap<>();

    Model(int copies) {
        this.copies = Math.max(1, Math.min(3, copies));
    }

    private static boolean badFile(int file) {
        return file < 0 || file > 3;
    }

    private static boolean badServer(int server) {
        return server < 0 || server > 4;
    }

    private List<Integer> current(StoredFile file, boolean onlyUp) {
        List<Integer> servers = new ArrayList<>();
        for (int server = 0; server < 5; server++) {
            if (file.isCurrent(server) && (up[server] || !onlyUp)) {
                servers.add(server);
            }
        }
        return servers;
    }

    private int load(int server) {
        return (int) files.values().stream().filter(f -> f.isCurrent(server)).count();
    }

    private List<Integer> orderOfUpServers() {
        List<Integer> servers = new ArrayList<>();
        for (int server = 0; server < 5; server++) {
            if (up[server]) {
                servers.add(server);
            }
        }
        servers.sort(Comparator.comparingInt(this::load).thenComparingInt(s -> s));
        return servers;
    }

    int create(int file) {
        if (badFile(file)) return ChunkCluster.BAD_NUMBER;
        if (files.containsKey(file)) return ChunkCluster.EXISTS;
        List<Integer> order = orderOfUpServers();
        if (order.isEmpty()) return ChunkCluster.NO_SERVER;
        StoredFile made = new StoredFile();
        List<Integer> chosen = order.subList(0, Math.min(copies, order.size()));
        for (int server : chosen) {
            made.onServer.put(server, new Replica());
        }
        files.put(file, made);
        return chosen.size();
    }

    int remove(int file) {
        if (badFile(file)) return ChunkCluster.BAD_NUMBER;
        return files.remove(file) == null ? ChunkCluster.NO_FILE : 0;
    }

    private Replica anyReadable(StoredFile file) {
        List<Integer> servers = current(file, true);
        return file.onServer.get(servers.get(servers.size() - 1));
    }

    private int refusal(int file) {
        if (badFile(file)) return ChunkCluster.BAD_NUMBER;
        if (!files.containsKey(file)) return ChunkCluster.NO_FILE;
        if (current(files.get(file), true).isEmpty()) return ChunkCluster.UNAVAILABLE;
        return 0;
    }

    int write(int file, int cell, int value) {
        if (refusal(file) != 0) return refusal(file);
        if (cell < 0 || cell > 5) return ChunkCluster.BAD_CELL;
        StoredFile stored = files.get(file);
        List<Integer> servers = current(stored, true);
        stored.writes++;
        for (int server : servers) {
            Replica replica = stored.onServer.get(server);
            replica.cells[cell] = value;
            replica.length = Math.max(replica.length, cell + 1);
            replica.writes = stored.writes;
        }
        return servers.size();
    }

    int append(int file, int value) {
        if (refusal(file) != 0) return refusal(file);
        int cell = anyReadable(files.get(file)).length;
        if (cell == 6) return ChunkCluster.FULL;
        write(file, cell, value);
        return cell;
    }

    int snapshot(int from, int to) {
        if (badFile(from) || badFile(to)) return ChunkCluster.BAD_NUMBER;
        if (!files.containsKey(from)) return ChunkCluster.NO_FILE;
        if (files.containsKey(to)) return ChunkCluster.EXISTS;
        if (refusal(from) != 0) return refusal(from);
        StoredFile source = files.get(from);
        StoredFile made = new StoredFile();
        made.writes = source.writes;
        for (int server : current(source, false)) {
            made.onServer.put(server, source.onServer.get(server).copy());
        }
        files.put(to, made);
        return made.onServer.size();
    }

    int crash(int server) {
        if (badServer(server)) return ChunkCluster.BAD_NUMBER;
        boolean was = up[server];
        up[server] = false;
        return was ? 1 : 0;
    }

    int restart(int server) {
        if (badServer(server)) return ChunkCluster.BAD_NUMBER;
        boolean was = up[server];
        up[server] = true;
        return was ? 0 : 1;
    }

    int loseDisk(int server) {
        if (badServer(server)) return ChunkCluster.BAD_NUMBER;
        int had = load(server);
        for (StoredFile file : files.values()) {
            file.onServer.remove(server);
        }
        return had;
    }

    int damage(int server, int file) {
        if (badServer(server) || badFile(file)) return ChunkCluster.BAD_NUMBER;
        if (!files.containsKey(file)) return ChunkCluster.NO_FILE;
        StoredFile stored = files.get(file);
        boolean was = stored.isCurrent(server);
        if (stored.onServer.containsKey(server)) {
            stored.onServer.get(server).damaged = true;
        }
        return was ? 1 : 0;
    }

    private boolean healOnce(StoredFile file) {
        List<Integer> have = current(file, true);
        if (have.isEmpty() || have.size() >= copies) return false;
        for (int server : orderOfUpServers()) {
            if (!file.isCurrent(server)) {
                file.onServer.put(server, file.onServer.get(have.get(0)).copy());
                return true;
            }
        }
        return false;
    }

    int heal() {
        int made = 0;
        for (StoredFile file : files.values()) {
            while (healOnce(file)) {
                made++;
            }
        }
        return made;
    }

    int read(int file, int cell) {
        if (refusal(file) != 0) return refusal(file);
        if (cell < 0 || cell > 5) return ChunkCluster.BAD_CELL;
        return anyReadable(files.get(file)).cells[cell];
    }

    int length(int file) {
        if (refusal(file) != 0) return refusal(file);
        return anyReadable(files.get(file)).length;
    }

    int replicas(int file) {
        if (badFile(file)) return ChunkCluster.BAD_NUMBER;
        if (!files.containsKey(file)) return ChunkCluster.NO_FILE;
        int mask = 0;
        for (int server : current(files.get(file), false)) {
            mask |= 1 << server;
        }
        return mask;
    }
}
