/** Promise 13: stopped. */
public final class StoppedTest {
  public static void main(String[] args) {
    stoppedFromLengthOn();
    stoppedOnHaltAlone();
    noOtherOpcodeStops();
    onlyThePresentPcAndProgramCount();
    oldCellsBeyondLengthDoNotCount();
    everySituationTellsIt();
    Check.end();
  }

  private static ScoreboardCpu withLength(int length) {
    ScoreboardCpu cpu = new ScoreboardCpu(2, 2, 2, 2);
    for (int cell = 0; cell < length; cell++) {
      cpu.emit(ScoreboardCpu.ADDI, 1, 1, 1);
    }
    return cpu;
  }

  // "`stopped()` answers true exactly if pc >= length ...": every pc with every length
  private static void stoppedFromLengthOn() {
    for (int length = 0; length <= 32; length++) {
      ScoreboardCpu cpu = withLength(length);
      for (int pc = 0; pc < 32; pc++) {
        cpu.jump(pc);
        String what = "stopped() at " + pc + " with length " + length;
        Check.due(what, cpu.stopped(), pc >= length);
      }
    }
    ScoreboardCpu full = withLength(32);
    full.jump(31);
    Check.due("stopped() at 31 of a full program", full.stopped(), false);
    full.run(1);
    Check.due("stopped() at 32", full.stopped(), true);
  }

  // "... or the cell at pc holds `HALT`; otherwise false.": at the HALT, before and behind it
  private static void stoppedOnHaltAlone() {
    for (int halt = 0; halt < 32; halt++) {
      ScoreboardCpu cpu = new ScoreboardCpu(2, 2, 2, 2);
      for (int cell = 0; cell < 32; cell++) {
        cpu.emit(cell == halt ? ScoreboardCpu.HALT : ScoreboardCpu.ADDI, 1, 1, 1);
      }
      for (int pc = 0; pc < 32; pc++) {
        cpu.jump(pc);
        Check.due("stopped() at " + pc + ", HALT at " + halt, cpu.stopped(), pc == halt);
      }
    }
  }

  private static void noOtherOpcodeStops() {
    for (int op = ScoreboardCpu.ADD; op <= ScoreboardCpu.BLT; op++) {
      ScoreboardCpu cpu = new ScoreboardCpu(2, 2, 2, 2);
      cpu.emit(op, 0, 0, 0);
      Check.due("stopped() on opcode " + op, cpu.stopped(), false);
    }
  }

  // "It depends only on the present pc and program, not on how an earlier `run` ended."
  private static void onlyThePresentPcAndProgramCount() {
    ScoreboardCpu byCount = withLength(3);
    byCount.run(2);
    Check.due("stopped() after a run ended by its count", byCount.stopped(), false);
    byCount.run(1);
    Check.due("stopped() after a run ended by count and length", byCount.stopped(), true);
    byCount.jump(2);
    Check.due("stopped() after jump(2)", byCount.stopped(), false);
    ScoreboardCpu byLength = withLength(3);
    byLength.run(64);
    Check.due("stopped() after a run ended by length", byLength.stopped(), true);
    byLength.emit(ScoreboardCpu.ADDI, 1, 1, 1);
    Check.due("stopped() when length has grown", byLength.stopped(), false);
    byLength.emit(ScoreboardCpu.HALT, 0, 0, 0);
    Check.due("stopped() when a HALT follows", byLength.stopped(), false);
    byLength.run(64);
    Check.due("stopped() after a run ended by HALT", byLength.stopped(), true);
    byLength.emit(ScoreboardCpu.ADDI, 1, 1, 1);
    Check.due("stopped() on HALT when length has grown", byLength.stopped(), true);
    byLength.jump(5);
    Check.due("stopped() behind the HALT", byLength.stopped(), false);
    byLength.run(65);
    Check.due("stopped() after a refused run", byLength.stopped(), false);
  }

  // After a reset the cells beyond length may still hold anything inside: it must not show.
  private static void oldCellsBeyondLengthDoNotCount() {
    ScoreboardCpu cpu = withLength(32);
    cpu.reset();
    Check.due("stopped() at 0 after a reset", cpu.stopped(), true);
    cpu.emit(ScoreboardCpu.BEQ, 1, 0, 0);
    Check.due("run(64) of a branch to length", cpu.run(64), 1);
    Check.due("stopped() at 1", cpu.stopped(), true);
    ScoreboardCpu halts = new ScoreboardCpu(1, 1, 1, 1);
    for (int cell = 0; cell < 32; cell++) {
      halts.emit(ScoreboardCpu.HALT, 0, 0, 0);
    }
    halts.reset();
    halts.emit(ScoreboardCpu.ADD, 0, 0, 0);
    Check.due("stopped() where a HALT was", halts.stopped(), false);
  }

  private static void everySituationTellsIt() {
    for (int situation = 0; situation < Situations.COUNT; situation++) {
      boolean due = Situations.isStopped(situation);
      String call = "stopped()" + Situations.name(situation);
      Check.due(call, Situations.make(situation).stopped(), due);
    }
  }
}
