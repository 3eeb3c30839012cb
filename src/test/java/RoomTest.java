import java.lang.management.ManagementFactory;

/** No call makes an object or an array: what an object needs is made with it and used again. */
public final class RoomTest {
    private static final Check check = new Check();

    public static void main(String[] args) {
        var threads = (com.sun.management.ThreadMXBean) ManagementFactory.getThreadMXBean();
        long itself = Thread.currentThread().getId();
        BlockYard[] yards = new BlockYard[20];
        for (int k = 0; k < yards.length; k++) {
            yards[k] = new BlockYard();
        }
        useAll(new BlockYard());
        long before = threads.getThreadAllocatedBytes(itself);
        for (BlockYard yard : yards) {
            useAll(yard);
        }
        long made = threads.getThreadAllocatedBytes(itself) - before;
        // the counting itself makes a little; one array a call would be far more
        check.due("bytes made by calls beyond 4000", 0, Math.max(0, made - 4000));
        before = threads.getThreadAllocatedBytes(itself);
        new BlockYard();
        made = threads.getThreadAllocatedBytes(itself) - before;
        check.due("bytes of an object beyond 100000", 0, Math.max(0, made - 100000));
        check.end();
    }

    private static final char[] LEVEL = "A.0.b./.#>.B./w..c../.C..w./......".toCharArray();

    private static void useAll(BlockYard yard) {
        yard.clearText();
        for (int k = 0; k < LEVEL.length; k++) {
            yard.type(LEVEL[k]);
        }
        yard.readLevel();
        yard.setWeight(0, 3);
        yard.setStrength(40);
        yard.setThreshold(0, 2);
        for (int block = 0; block < 3; block++) {
            yard.setGoal(block, 5 - block, 4, 4);
            yard.deadCount(block);
            yard.distance(block);
            yard.isDead(block, 1, 1, 1);
            yard.block(block, 5);
        }
        yard.possibleCount();
        yard.possible(3);
        yard.moved(0, 0);
        yard.move(0, 0);
        yard.move(1, 4);
        yard.undo();
        yard.redo();
        yard.moveAt(0);
        yard.effort();
        yard.save(1);
        yard.restore(1);
        yard.isSolved();
        yard.lowerBound();
        yard.solve();
        yard.solution(0);
        yard.reachable(4);
        yard.load(0);
        yard.isOpen(0);
        yard.blockAt(1, 1);
        yard.cell(1, 1);
        yard.size(0);
        yard.clearGoal(0);
        yard.clearText();
        yard.type('a');
        yard.type('t');
        yard.readMoves();
    }
}
