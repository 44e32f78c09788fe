/** The example in README.md answers what stands beside its calls. */
public final class ReadmeTest {
    public static void main(String[] args) {
        Check check = new Check();
        ChunkCluster store = new ChunkCluster(2);
        check.due("create(0)", store.create(0), 2);
        check.due("append(0, 42)", store.append(0, 42), 0);
        check.due("crash(0)", store.crash(0), 1);
        check.due("write(0, 1, 43)", store.write(0, 1, 43), 1);
        check.due("heal()", store.heal(), 1);
        check.due("replicas(0)", store.replicas(0), 6);
        check.due("read(0, 0)", store.read(0, 0), 42);
        check.due("read(1, 0)", store.read(1, 0), -3);
        check.end();
    }
}
