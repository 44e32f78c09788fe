public final class ChunkCluster {
    public static final int BAD_NUMBER = -1;
    public static final int EXISTS = -2;
    public static final int NO_FILE = -3;
    public static final int NO_SERVER = -4;
    public static final int UNAVAILABLE = -5;
    public static final int BAD_CELL = -6;
    public static final int FULL = -7;

    private static final int SERVERS = 5;
    private static final int FILES = 4;
    private static final int CELLS = 6;
    private static final int ALL_CELLS = FILES * CELLS;
    private static final int ALL_SERVERS = (1 << SERVERS) - 1;
    private static final int MOST_COPIES = 3;
    private static final int ACCEPTED = 0;
    private static final int NONE = -1;

    private final int copies;
    private int upServers = ALL_SERVERS;

    private final boolean[] exists = new boolean[FILES];
    private final int[] lengths = new int[FILES];

    // A mask of servers for each file; 0 while the file doesn't exist, so that
    // the servers' loads can be counted without asking which files exist.
    private final int[] currentServers = new int[FILES];

    // The contents are held once for each file and not once for each replica:
    // all current replicas are equal, and no other replica is ever looked at.
    private final int[] cells = new int[ALL_CELLS];

    public ChunkCluster(int copies) {
        this.copies = copies < 1 ? 1 : copies > MOST_COPIES ? MOST_COPIES : copies;
    }

    public int create(int file) {
        if (!isFileNumber(file)) {
            return BAD_NUMBER;
        }
        if (exists[file]) {
            return EXISTS;
        }
        if (upServers == 0) {
            return NO_SERVER;
        }
        exists[file] = true;
        lengths[file] = 0;
        for (int cell = 0; cell < CELLS; cell++) {
            cells[file * CELLS + cell] = 0;
        }
        return addMissingReplicas(file);
    }

    public int remove(int file) {
        int refusal = refusalUnlessExists(file);
        if (refusal != ACCEPTED) {
            return refusal;
        }
        exists[file] = false;
        currentServers[file] = 0;
        return 0;
    }

    public int write(int file, int cell, int value) {
        int refusal = refusalUnlessAvailable(file);
        if (refusal != ACCEPTED) {
            return refusal;
        }
        if (!isCellNumber(cell)) {
            return BAD_CELL;
        }
        store(file, cell, value);
        return countServers(currentServers[file]);
    }

    public int append(int file, int value) {
        int refusal = refusalUnlessAvailable(file);
        if (refusal != ACCEPTED) {
            return refusal;
        }
        int cell = lengths[file];
        if (!isCellNumber(cell)) {
            return FULL;
        }
        store(file, cell, value);
        return cell;
    }

    public int snapshot(int from, int to) {
        if (!isFileNumber(from) || !isFileNumber(to)) {
            return BAD_NUMBER;
        }
        if (!exists[from]) {
            return NO_FILE;
        }
        if (exists[to]) {
            return EXISTS;
        }
        if (!isAvailable(from)) {
            return UNAVAILABLE;
        }
        exists[to] = true;
        lengths[to] = lengths[from];
        currentServers[to] = currentServers[from];
        for (int cell = 0; cell < CELLS; cell++) {
            cells[to * CELLS + cell] = cells[from * CELLS + cell];
        }
        return countServers(currentServers[to]);
    }

    public int crash(int server) {
        if (!isServerNumber(server)) {
            return BAD_NUMBER;
        }
        int wasUp = isIn(upServers, server) ? 1 : 0;
        upServers &= ~(1 << server);
        return wasUp;
    }

    public int restart(int server) {
        if (!isServerNumber(server)) {
            return BAD_NUMBER;
        }
        int wasDown = isIn(upServers, server) ? 0 : 1;
        upServers |= 1 << server;
        return wasDown;
    }

    public int loseDisk(int server) {
        if (!isServerNumber(server)) {
            return BAD_NUMBER;
        }
        int lost = countReplicasOn(server);
        for (int file = 0; file < FILES; file++) {
            currentServers[file] &= ~(1 << server);
        }
        return lost;
    }

    public int damage(int server, int file) {
        if (!isServerNumber(server)) {
            return BAD_NUMBER;
        }
        int refusal = refusalUnlessExists(file);
        if (refusal != ACCEPTED) {
            return refusal;
        }
        int wasCurrent = isIn(currentServers[file], server) ? 1 : 0;
        currentServers[file] &= ~(1 << server);
        return wasCurrent;
    }

    public int heal() {
        int made = 0;
        for (int file = 0; file < FILES; file++) {
            // A file that doesn't exist has no replica, so it is never available.
            if (isAvailable(file)) {
                made += addMissingReplicas(file);
            }
        }
        return made;
    }

    public int read(int file, int cell) {
        int refusal = refusalUnlessAvailable(file);
        if (refusal != ACCEPTED) {
            return refusal;
        }
        if (!isCellNumber(cell)) {
            return BAD_CELL;
        }
        return cells[file * CELLS + cell];
    }

    public int length(int file) {
        int refusal = refusalUnlessAvailable(file);
        if (refusal != ACCEPTED) {
            return refusal;
        }
        return lengths[file];
    }

    public int replicas(int file) {
        int refusal = refusalUnlessExists(file);
        if (refusal != ACCEPTED) {
            return refusal;
        }
        return currentServers[file];
    }

    private int refusalUnlessExists(int file) {
        if (!isFileNumber(file)) {
            return BAD_NUMBER;
        }
        return exists[file] ? ACCEPTED : NO_FILE;
    }

    private int refusalUnlessAvailable(int file) {
        int refusal = refusalUnlessExists(file);
        if (refusal != ACCEPTED) {
            return refusal;
        }
        return isAvailable(file) ? ACCEPTED : UNAVAILABLE;
    }

    private boolean isAvailable(int file) {
        return (currentServers[file] & upServers) != 0;
    }

    private void store(int file, int cell, int value) {
        // The servers that are down miss this write, so their replicas are stale for good.
        currentServers[file] &= upServers;
        cells[file * CELLS + cell] = value;
        if (lengths[file] <= cell) {
            lengths[file] = cell + 1;
        }
    }

    // The order is asked for anew before each replica, as heal must. For create
    // that is the order before the call: a replica raises only the load of the
    // server that got it, and that server is not a candidate for this file again.
    private int addMissingReplicas(int file) {
        int wanted = copies - countServers(currentServers[file] & upServers);
        int made = 0;
        while (made < wanted) {
            int server = firstInOrder(upServers & ~currentServers[file]);
            if (server == NONE) {
                break;
            }
            currentServers[file] |= 1 << server;
            made++;
        }
        return made;
    }

    private int firstInOrder(int candidates) {
        int first = NONE;
        int fewest = 0;
        for (int server = 0; server < SERVERS; server++) {
            if (isIn(candidates, server)) {
                int load = countReplicasOn(server);
                if (first == NONE || load < fewest) {
                    first = server;
                    fewest = load;
                }
            }
        }
        return first;
    }

    private int countReplicasOn(int server) {
        int count = 0;
        for (int file = 0; file < FILES; file++) {
            if (isIn(currentServers[file], server)) {
                count++;
            }
        }
        return count;
    }

    private static int countServers(int mask) {
        int count = 0;
        for (int server = 0; server < SERVERS; server++) {
            if (isIn(mask, server)) {
                count++;
            }
        }
        return count;
    }

    private static boolean isIn(int mask, int server) {
        return (mask >> server & 1) == 1;
    }

    private static boolean isServerNumber(int server) {
        return server >= 0 && server < SERVERS;
    }

    private static boolean isFileNumber(int file) {
        return file >= 0 && file < FILES;
    }

    private static boolean isCellNumber(int cell) {
        return cell >= 0 && cell < CELLS;
    }
}
