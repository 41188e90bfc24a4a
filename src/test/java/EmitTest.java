/** Promises 4 and 5: emit and length. */
public final class EmitTest {
  private static final int[] ANY = {
    Integer.MIN_VALUE, -1, 0, 7, 8, 31, 32, 1000, Integer.MAX_VALUE
  };

  public static void main(String[] args) {
    everyFieldIsLookedAt();
    cellsAreNumberedUpToFull();
    fullComesBeforeRefused();
    emitLeavesTheRest();
    emitAfterARunStartsAStoppedMachine();
    cellsKeepTheirInstructions();
    Check.end();
  }

  private static void everyFieldIsLookedAt() {
    int[] ops = {Integer.MIN_VALUE, -1, 0, 1, 2, 3, 4, 5, 6, 7, 8, 9, 10, 11, 12, 13, Integer.MAX_VALUE};
    for (int op : ops) {
      for (int d : ANY) {
        for (int a : ANY) {
          for (int b : ANY) {
            tryOne(op, d, a, b);
          }
        }
      }
    }
  }

  private static void tryOne(int op, int d, int a, int b) {
    ScoreboardCpu cpu = new ScoreboardCpu(1, 1, 1, 1);
    String call = "emit(" + op + ", " + d + ", " + a + ", " + b + ")";
    boolean accepted = isAccepted(op, d, a, b);
    Check.due(call, cpu.emit(op, d, a, b), accepted ? 0 : ScoreboardCpu.REFUSED);
    Check.due(call + ", then length()", cpu.length(), accepted ? 1 : 0);
    Check.due(call + ", then pc()", cpu.pc(), 0);
    Check.due(call + ", then stopped()", cpu.stopped(), !accepted || op == 0);
  }

  private static boolean isAccepted(int op, int d, int a, int b) {
    boolean registerD = d >= 0 && d <= 7;
    boolean registerA = a >= 0 && a <= 7;
    boolean registerB = b >= 0 && b <= 7;
    switch (op) {
      case 0:
        return true;
      case 1: case 2: case 4: case 5: case 6: case 7:
        return registerD && registerA && registerB;
      case 3: case 8: case 9:
        return registerD && registerA;
      case 10: case 11: case 12:
        return d >= 0 && d <= 31 && registerA && registerB;
      default:
        return false;
    }
  }

  private static void cellsAreNumberedUpToFull() {
    ScoreboardCpu cpu = new ScoreboardCpu(1, 1, 1, 1);
    for (int cell = 0; cell < 32; cell++) {
      Check.due("length() before cell " + cell, cpu.length(), cell);
      Check.due("refused emit before cell " + cell, cpu.emit(13, 0, 0, 0), ScoreboardCpu.REFUSED);
      Check.due("emit into cell " + cell, cpu.emit(cell % 13, 1, 2, 3), cell);
    }
    Check.due("length() at the end", cpu.length(), 32);
  }

  private static void fullComesBeforeRefused() {
    ScoreboardCpu cpu = new ScoreboardCpu(1, 1, 1, 1);
    for (int cell = 0; cell < 32; cell++) {
      cpu.emit(ScoreboardCpu.ADDI, 1, 1, 1);
    }
    int[] before = State.of(cpu);
    Check.due("emit of a good one when full", cpu.emit(1, 0, 0, 0), ScoreboardCpu.FULL);
    Check.due("emit of HALT when full", cpu.emit(0, 0, 0, 0), ScoreboardCpu.FULL);
    Check.due("emit of a wrong opcode when full", cpu.emit(-1, 0, 0, 0), ScoreboardCpu.FULL);
    Check.due("emit of opcode 13 when full", cpu.emit(13, 0, 0, 0), ScoreboardCpu.FULL);
    Check.due("emit of a wrong field when full", cpu.emit(1, 8, -1, 9), ScoreboardCpu.FULL);
    Check.same("emit when full", before, State.of(cpu));
    Check.due("run(64) of a full program", cpu.run(64), 32);
    Check.due("register(1) after it", cpu.register(1), 32);
  }

  private static void emitLeavesTheRest() {
    ScoreboardCpu cpu = State.used();
    int[] before = State.of(cpu);
    cpu.emit(1, 8, 0, 0);
    cpu.emit(13, 0, 0, 0);
    cpu.length();
    Check.same("refused emit", before, State.of(cpu));
    Check.due("emit after a run", cpu.emit(ScoreboardCpu.MUL, 1, 2, 3), 3);
    Check.due("length() after it", cpu.length(), 4);
    Check.same("emit after a run", before, State.of(cpu), State.LENGTH);
  }

  private static void emitAfterARunStartsAStoppedMachine() {
    ScoreboardCpu cpu = new ScoreboardCpu(8, 8, 8, 8);
    cpu.emit(ScoreboardCpu.ADDI, 1, 1, 5);
    Check.due("run(64)", cpu.run(64), 1);
    Check.due("stopped() at length", cpu.stopped(), true);
    Check.due("emit", cpu.emit(ScoreboardCpu.ADDI, 1, 1, 7), 1);
    Check.due("pc() stays", cpu.pc(), 1);
    Check.due("stopped() no more", cpu.stopped(), false);
    Check.due("run(64) again", cpu.run(64), 1);
    Check.due("register(1)", cpu.register(1), 12);
  }

  private static void cellsKeepTheirInstructions() {
    ScoreboardCpu cpu = new ScoreboardCpu(4, 3, 2, 1);
    for (int cell = 0; cell < 32; cell++) {
      cpu.emit(ScoreboardCpu.ADDI, cell % 8, (cell + 3) % 8, cell * 1000);
    }
    cpu.emit(ScoreboardCpu.ADDI, 0, 0, 5);
    for (int cell = 0; cell < 32; cell++) {
      cpu.setRegister((cell + 3) % 8, 7);
      cpu.jump(cell);
      Check.due("run(1) at " + cell, cpu.run(1), 1);
      Check.due("register after cell " + cell, cpu.register(cell % 8), 7 + cell * 1000);
    }
  }
}
