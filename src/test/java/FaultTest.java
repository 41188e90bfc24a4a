/** Promise 12, Faults; promises 14, 15 and 16: faultCount, firstFault and lastFault. */
public final class FaultTest {
  public static void main(String[] args) {
    codesTellKindAndCell();
    firstAndLastAreInProgramOrder();
    firstStaysLastMoves();
    anInstructionFaultsEachTime();
    onlyExecutedInstructionsFault();
    Check.end();
  }

  private static void codesTellKindAndCell() {
    for (int cell = 0; cell < 32; cell++) {
      code(cell, ScoreboardCpu.DIV, 0, 32 + cell);
      code(cell, ScoreboardCpu.REM, 0, 32 + cell);
      code(cell, ScoreboardCpu.LOAD, 32, 64 + cell);
      code(cell, ScoreboardCpu.STORE, -1, 96 + cell);
    }
  }

  private static void code(int cell, int op, int b, int want) {
    ScoreboardCpu cpu = new ScoreboardCpu(1, 2, 3, 4);
    for (int i = 0; i < cell; i++) {
      cpu.emit(ScoreboardCpu.ADD, 1, 1, 1);
    }
    cpu.emit(op, 2, 0, b);
    Check.due("run(64)", cpu.run(64), cell + 1);
    String what = "opcode " + op + " in cell " + cell;
    Check.due(what + ", faultCount()", cpu.faultCount(), 1);
    Check.due(what + ", firstFault()", cpu.firstFault(), want);
    Check.due(what + ", lastFault()", cpu.lastFault(), want);
    int[] before = State.of(cpu);
    cpu.faultCount();
    cpu.firstFault();
    cpu.lastFault();
    Check.same("reading the faults", before, State.of(cpu));
  }

  // With these latencies the second of the pair would be done long before the first.
  private static void firstAndLastAreInProgramOrder() {
    ScoreboardCpu slowDivider = new ScoreboardCpu(1, 1, 8, 1);
    slowDivider.emit(ScoreboardCpu.DIV, 1, 2, 0);
    slowDivider.emit(ScoreboardCpu.LOAD, 3, 0, -1);
    slowDivider.run(64);
    Check.due("slow DIV then LOAD, firstFault()", slowDivider.firstFault(), 32);
    Check.due("slow DIV then LOAD, lastFault()", slowDivider.lastFault(), 65);
    ScoreboardCpu slowMemory = new ScoreboardCpu(1, 1, 1, 8);
    slowMemory.emit(ScoreboardCpu.STORE, 1, 0, 99);
    slowMemory.emit(ScoreboardCpu.REM, 3, 2, 0);
    slowMemory.run(64);
    Check.due("slow STORE then REM, firstFault()", slowMemory.firstFault(), 96);
    Check.due("slow STORE then REM, lastFault()", slowMemory.lastFault(), 33);
  }

  private static void firstStaysLastMoves() {
    ScoreboardCpu cpu = new ScoreboardCpu(1, 1, 1, 1);
    cpu.emit(ScoreboardCpu.LOAD, 1, 0, 32);
    cpu.emit(ScoreboardCpu.STORE, 1, 0, 32);
    cpu.emit(ScoreboardCpu.DIV, 1, 0, 0);
    int[] due = {64, 97, 34};
    for (int step = 0; step < 3; step++) {
      cpu.run(1);
      Check.due("faultCount() after step " + step, cpu.faultCount(), step + 1);
      Check.due("firstFault() after step " + step, cpu.firstFault(), 64);
      Check.due("lastFault() after step " + step, cpu.lastFault(), due[step]);
    }
    cpu.emit(ScoreboardCpu.ADD, 1, 0, 0);
    cpu.run(1);
    Check.due("lastFault() after a good instruction", cpu.lastFault(), 34);
    Check.due("faultCount() after a good instruction", cpu.faultCount(), 3);
  }

  private static void anInstructionFaultsEachTime() {
    ScoreboardCpu cpu = new ScoreboardCpu(8, 8, 8, 8);
    cpu.emit(ScoreboardCpu.DIV, 1, 0, 0);
    cpu.emit(ScoreboardCpu.BEQ, 0, 0, 0);
    for (int call = 1; call <= 50; call++) {
      cpu.run(64);
      Check.due("faultCount() after call " + call, cpu.faultCount(), 32 * call);
    }
  }

  private static void onlyExecutedInstructionsFault() {
    ScoreboardCpu cpu = new ScoreboardCpu(1, 1, 1, 1);
    cpu.emit(ScoreboardCpu.BEQ, 2, 0, 0);
    cpu.emit(ScoreboardCpu.DIV, 1, 0, 0);
    cpu.emit(ScoreboardCpu.HALT, 0, 0, 0);
    cpu.emit(ScoreboardCpu.LOAD, 1, 0, 99);
    cpu.emit(99, 0, 0, 0);
    cpu.run(64);
    cpu.run(0);
    cpu.run(65);
    cpu.setMemory(32, 1);
    cpu.memory(32);
    cpu.setRegister(8, 1);
    cpu.register(8);
    cpu.jump(32);
    cpu.setLatency(4, 1);
    cpu.latency(4);
    Check.due("faultCount()", cpu.faultCount(), 0);
    Check.due("firstFault()", cpu.firstFault(), ScoreboardCpu.NONE);
    Check.due("lastFault()", cpu.lastFault(), ScoreboardCpu.NONE);
  }
}
