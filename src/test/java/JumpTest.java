/** Promises 10 and 11: jump and pc. */
public final class JumpTest {
  public static void main(String[] args) {
    everyCellIsAllowed();
    wrongCellsAreRefused();
    pcReaches32OnlyByRunning();
    Check.end();
  }

  private static void everyCellIsAllowed() {
    for (int cell = 0; cell < 32; cell++) {
      ScoreboardCpu cpu = State.used();
      int[] before = State.of(cpu);
      Check.due("jump(" + cell + ")", cpu.jump(cell), ScoreboardCpu.OK);
      Check.due("pc() after it", cpu.pc(), cell);
      Check.due("stopped() after it", cpu.stopped(), cell >= 3);
      Check.same("jump(" + cell + ")", before, State.of(cpu), State.PC, State.STOPPED);
    }
  }

  private static void wrongCellsAreRefused() {
    for (int cell : new int[] {-1, 32, 33, Integer.MIN_VALUE, Integer.MAX_VALUE}) {
      ScoreboardCpu cpu = State.used();
      int[] before = State.of(cpu);
      Check.due("jump(" + cell + ")", cpu.jump(cell), ScoreboardCpu.REFUSED);
      Check.same("jump(" + cell + ")", before, State.of(cpu));
    }
  }

  private static void pcReaches32OnlyByRunning() {
    ScoreboardCpu cpu = new ScoreboardCpu(8, 1, 1, 1);
    for (int cell = 0; cell < 32; cell++) {
      cpu.emit(ScoreboardCpu.ADD, 0, 0, 0);
    }
    Check.due("jump(31)", cpu.jump(31), ScoreboardCpu.OK);
    Check.due("run(5)", cpu.run(5), 1);
    Check.due("pc()", cpu.pc(), 32);
    Check.due("jump(32)", cpu.jump(32), ScoreboardCpu.REFUSED);
    Check.due("jump(0)", cpu.jump(0), ScoreboardCpu.OK);
    Check.due("pc() after jump(0)", cpu.pc(), 0);
  }
}
