/** Promises 10 and 11: jump and pc. */
public final class JumpTest {
  private static final int MIN = Integer.MIN_VALUE;
  private static final int MAX = Integer.MAX_VALUE;

  public static void main(String[] args) {
    aWrongCellIsRefused();
    thirtyTwoIsRefusedToo();
    everyCellIsTaken();
    aCellAtLengthOrBeyondIsAllowed();
    nothingButThePcChanges();
    pcGoesFrom0To32();
    Check.end();
  }

  // "`jump(cell)` answers `REFUSED` and changes nothing if `cell` is not in 0..31"
  private static void aWrongCellIsRefused() {
    for (int situation = 0; situation < Situations.COUNT; situation++) {
      for (int cell : new int[] {MIN, MIN + 1, -32, -2, -1, 32, 33, 64, MAX}) {
        ScoreboardCpu cpu = Situations.make(situation);
        String call = "jump(" + cell + ")" + Situations.name(situation);
        Check.due(call, cpu.jump(cell), ScoreboardCpu.REFUSED);
        Check.untouched(call, cpu, situation);
      }
    }
  }

  // "(so 32 is refused too)", even where the pc is 32 already or the program has 32 cells
  private static void thirtyTwoIsRefusedToo() {
    ScoreboardCpu cpu = Situations.make(Situations.FULL);
    Check.due("jump(32) when full", cpu.jump(32), ScoreboardCpu.REFUSED);
    Check.due("pc() after it", cpu.pc(), 2);
    Check.due("jump(31)", cpu.jump(31), ScoreboardCpu.OK);
    Check.due("run(64) from 31", cpu.run(64), 1);
    Check.due("jump(32) at 32", cpu.jump(32), ScoreboardCpu.REFUSED);
    Check.due("pc() after that", cpu.pc(), 32);
    Check.due("jump(33) at 32", cpu.jump(33), ScoreboardCpu.REFUSED);
    Check.due("jump(31) at 32", cpu.jump(31), ScoreboardCpu.OK);
  }

  // "Otherwise the pc becomes `cell` and the answer is `OK`"
  private static void everyCellIsTaken() {
    for (int situation = 0; situation < Situations.COUNT; situation++) {
      for (int cell = 0; cell < 32; cell++) {
        ScoreboardCpu cpu = Situations.make(situation);
        String call = "jump(" + cell + ")" + Situations.name(situation);
        Check.due(call, cpu.jump(cell), ScoreboardCpu.OK);
        Check.due(call + ", then pc()", cpu.pc(), cell);
      }
    }
  }

  // "a `cell` at length or beyond is allowed"
  private static void aCellAtLengthOrBeyondIsAllowed() {
    for (int length = 0; length <= 32; length++) {
      ScoreboardCpu cpu = new ScoreboardCpu(1, 1, 1, 1);
      for (int cell = 0; cell < length; cell++) {
        cpu.emit(ScoreboardCpu.ADD, 0, 0, 0);
      }
      for (int cell = Math.max(0, length - 1); cell <= Math.min(31, length + 1); cell++) {
        String call = "jump(" + cell + ") with length " + length;
        Check.due(call, cpu.jump(cell), ScoreboardCpu.OK);
        Check.due(call + ", then pc()", cpu.pc(), cell);
        Check.due(call + ", then stopped()", cpu.stopped(), cell >= length);
        Check.due(call + ", then length()", cpu.length(), length);
      }
    }
  }

  // "Nothing but the pc changes."
  private static void nothingButThePcChanges() {
    for (int situation = 0; situation < Situations.COUNT; situation++) {
      for (int cell = 0; cell < 32; cell++) {
        ScoreboardCpu cpu = Situations.make(situation);
        int[] before = State.of(cpu);
        String call = "jump(" + cell + ")" + Situations.name(situation);
        cpu.jump(cell);
        Check.same(call, before, State.of(cpu), State.PC, State.STOPPED);
        if (before[State.PC] < 32) {
          cpu.jump(before[State.PC]);
          Check.untouched(call + " and back", cpu, situation);
        }
      }
    }
  }

  // "`pc()` answers the pc, 0..32."
  private static void pcGoesFrom0To32() {
    ScoreboardCpu cpu = new ScoreboardCpu(8, 1, 1, 1);
    for (int cell = 0; cell < 32; cell++) {
      cpu.emit(ScoreboardCpu.ADD, 0, 0, 0);
    }
    for (int cell = 0; cell < 32; cell++) {
      Check.due("pc() before step " + cell, cpu.pc(), cell);
      cpu.run(1);
    }
    Check.due("pc() at the end", cpu.pc(), 32);
    Check.due("run(1) at the end", cpu.run(1), 0);
    Check.due("pc() still at the end", cpu.pc(), 32);
    cpu.jump(0);
    Check.due("pc() after jump(0)", cpu.pc(), 0);
  }
}
