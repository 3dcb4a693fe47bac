import com.sun.management.ThreadMXBean;
import java.lang.management.ManagementFactory;

/** All calls of one run live in one room: a call makes no object, however dear it is. */
public final class RoomTests {
  private static final ThreadMXBean THREADS = (ThreadMXBean) ManagementFactory.getThreadMXBean();

  /** Each round is on an object of its own, since one is used for 512 calls at most. */
  private static final int ROUNDS = 20;

  private static long answers = 0;

  public static void main(String[] args) {
    WallTurns[] all = new WallTurns[ROUNDS + 1];
    all[0] = new WallTurns();
    everyCall(all[0]);
    long before = made();
    for (int i = 1; i <= ROUNDS; i++) all[i] = new WallTurns();
    long each = (made() - before) / ROUNDS;
    before = made();
    for (int i = 1; i <= ROUNDS; i++) everyCall(all[i]);
    long byCalls = made() - before;
    // asking for the number may itself make something once, the calls may not: twenty rounds are some 3,500 of them
    boolean fine = byCalls < 20_000 && each < 20_000;
    String told = "a new object is " + each + " bytes, the calls made " + byCalls + " (" + answers + ")";
    System.out.println(fine ? "the calls make no objects" : told);
    if (!fine) System.exit(1);
  }

  private static long made() { return THREADS.getThreadAllocatedBytes(Thread.currentThread().getId()); }

  private static void everyCall(WallTurns x) {
    for (int text = 0; text < 2; text++) {
      x.wipe(text);
      String all = text == 0 ? "nsN;;S;sss;nnnnnnn" : "-2n1;-0s0S1;n3n3n3;s4;N0";
      for (int i = 0; i < all.length(); i++) answers += x.type(text, all.charAt(i));
    }
    for (int v = -1; v < 4; v++) {
      answers += x.mend(v) + x.open(v + 1, v) + x.sides(v, 0) + x.sides(v, 1) + x.who(v) + x.frost(5, v) + x.first(v);
      answers += x.years(v, 40, v) + x.height(v, v) + x.lean(v, v) + x.stone(v, v, v) + x.behind(v, v) + x.turn(v, v);
      answers += x.sheet(v, v, 60) + x.lay(v, v, v, v) + x.get(v, v, v) + x.copy(v, 0, v, 1, 5) + x.write(v, v);
      answers += x.seen(v, v, v) + x.read(v) + x.set(2, v) + x.set(1, v) + x.count(v) + x.fault(v) + x.undo(v) + x.lose(v);
    }
    answers += x.forget() + x.highest() + x.digest();
  }
}
