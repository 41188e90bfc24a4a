/** Promise 12, Faults; promises 14, 15 and 16: faultCount, firstFault and lastFault. */
public final class FaultTest {
  private static final int[] KINDS = {
    ScoreboardCpu.DIV, ScoreboardCpu.REM, ScoreboardCpu.LOAD, ScoreboardCpu.STORE
  };

  public static void main(String[] args) {
    theCodeTellsKindAndCell();
    aFaultAddsOneToTheCount();
    theLastFaultIsTheNewest();
    theFirstFaultIsKept();
    firstAndLastAreInProgramOrder();
    everyPairIsInProgramOrder();
    onlyExecutedInstructionsCount();
    aRefusedCallIsNoFault();
    noneIfThereWasNone();
    afterOneFaultBothAreEqual();
    firstStaysUntilReset();
    theCountGoesOnOverManyCalls();
    Check.end();
  }

  // R[0] and R[1] are 0 here, so that the address is b and the divisor is 0.
  private static void emitFaulty(ScoreboardCpu cpu, int op) {
    boolean division = op == ScoreboardCpu.DIV || op == ScoreboardCpu.REM;
    cpu.emit(op, 2, 0, division ? 1 : 32);
  }

  private static int code(int op, int cell) {
    if (op == ScoreboardCpu.LOAD) {
      return 64 + cell;
    }
    return op == ScoreboardCpu.STORE ? 96 + cell : 32 + cell;
  }

  private static void due(String what, ScoreboardCpu cpu, int count, int first, int last) {
    Check.due(what + ", faultCount()", cpu.faultCount(), count);
    Check.due(what + ", firstFault()", cpu.firstFault(), first);
    Check.due(what + ", lastFault()", cpu.lastFault(), last);
  }

  // "A fault of kind k (1, 2 or 3) raised by the instruction in cell c has the code k * 32 + c."
  private static void theCodeTellsKindAndCell() {
    Check.due("FAULT_DIVIDE", ScoreboardCpu.FAULT_DIVIDE, 1);
    Check.due("FAULT_LOAD", ScoreboardCpu.FAULT_LOAD, 2);
    Check.due("FAULT_STORE", ScoreboardCpu.FAULT_STORE, 3);
    for (int op : KINDS) {
      for (int cell = 0; cell < 32; cell++) {
        ScoreboardCpu cpu = new ScoreboardCpu(1, 2, 3, 4);
        for (int i = 0; i < cell; i++) {
          cpu.emit(ScoreboardCpu.ADD, 3, 3, 3);
        }
        emitFaulty(cpu, op);
        Check.due("run(64)", cpu.run(64), cell + 1);
        due("opcode " + op + " in cell " + cell, cpu, 1, code(op, cell), code(op, cell));
      }
    }
  }

  // "It adds 1 to the fault count": 0, 1, 2 and on, and an instruction without a fault adds none
  private static void aFaultAddsOneToTheCount() {
    for (int op : KINDS) {
      ScoreboardCpu cpu = new ScoreboardCpu(8, 1, 4, 2);
      emitFaulty(cpu, op);
      cpu.emit(ScoreboardCpu.BEQ, 0, 0, 0);
      Check.due("faultCount() at the start", cpu.faultCount(), 0);
      for (int call = 1; call <= 20; call++) {
        cpu.run(1);
        Check.due("faultCount() of opcode " + op, cpu.faultCount(), call);
        cpu.run(1);
        Check.due("faultCount() after a branch", cpu.faultCount(), call);
      }
    }
  }

  // "its code becomes the last fault"
  private static void theLastFaultIsTheNewest() {
    ScoreboardCpu cpu = new ScoreboardCpu(1, 1, 1, 1);
    for (int cell = 0; cell < 32; cell++) {
      emitFaulty(cpu, KINDS[cell % 4]);
    }
    for (int cell = 0; cell < 32; cell++) {
      cpu.run(1);
      Check.due("lastFault() after cell " + cell, cpu.lastFault(), code(KINDS[cell % 4], cell));
    }
    cpu.jump(0);
    cpu.run(1);
    Check.due("lastFault() after cell 0 again", cpu.lastFault(), 32);
  }

  // "if the first fault is none, its code becomes the first fault too"
  private static void theFirstFaultIsKept() {
    for (int first : KINDS) {
      for (int second : KINDS) {
        ScoreboardCpu cpu = new ScoreboardCpu(1, 1, 1, 1);
        emitFaulty(cpu, first);
        emitFaulty(cpu, second);
        String what = "opcodes " + first + " and " + second;
        due(what + ", none", cpu, 0, ScoreboardCpu.NONE, ScoreboardCpu.NONE);
        cpu.run(1);
        due(what + ", one", cpu, 1, code(first, 0), code(first, 0));
        cpu.run(1);
        due(what + ", both", cpu, 2, code(first, 0), code(second, 1));
      }
    }
  }

  // "First and last are meant in program order of execution, not in order of time.": with these
  // latencies the second of the pair would be done long before the first
  private static void firstAndLastAreInProgramOrder() {
    ScoreboardCpu slowDivider = new ScoreboardCpu(1, 1, 8, 1);
    emitFaulty(slowDivider, ScoreboardCpu.DIV);
    slowDivider.emit(ScoreboardCpu.LOAD, 3, 0, -1);
    slowDivider.run(64);
    due("slow DIV then LOAD", slowDivider, 2, 32, 65);
    ScoreboardCpu slowMemory = new ScoreboardCpu(1, 1, 1, 8);
    slowMemory.emit(ScoreboardCpu.STORE, 1, 0, 99);
    slowMemory.emit(ScoreboardCpu.REM, 3, 2, 0);
    slowMemory.run(64);
    due("slow STORE then REM", slowMemory, 2, 96, 33);
  }

  // Program order of execution is not the order of the cells: a branch back is in between, too.
  private static void everyPairIsInProgramOrder() {
    for (int first : KINDS) {
      for (int second : KINDS) {
        for (int latencies = 0; latencies < 64; latencies++) {
          ScoreboardCpu cpu = new ScoreboardCpu(1, 1, latencies % 8 + 1, latencies / 8 + 1);
          cpu.emit(ScoreboardCpu.BEQ, 3, 0, 1);
          emitFaulty(cpu, second);
          cpu.emit(ScoreboardCpu.HALT, 0, 0, 0);
          emitFaulty(cpu, first);
          cpu.emit(ScoreboardCpu.BEQ, 1, 0, 1);
          Check.due("run(64)", cpu.run(64), 4);
          due("opcodes " + first + " in cell 3, then " + second + " in cell 1", cpu, 2,
              code(first, 3), code(second, 1));
        }
      }
    }
  }

  // Promise 14: "Only faults raised by executed instructions count"
  private static void onlyExecutedInstructionsCount() {
    for (int op : KINDS) {
      ScoreboardCpu cpu = new ScoreboardCpu(1, 1, 1, 1);
      cpu.emit(ScoreboardCpu.BEQ, 2, 0, 0);
      emitFaulty(cpu, op);
      cpu.emit(ScoreboardCpu.ADD, 3, 3, 3);
      emitFaulty(cpu, op);
      cpu.run(2);
      due("skipped and not yet reached", cpu, 0, -1, -1);
      cpu.run(1);
      due("reached", cpu, 1, code(op, 3), code(op, 3));
      ScoreboardCpu halted = new ScoreboardCpu(1, 1, 1, 1);
      halted.emit(ScoreboardCpu.HALT, 0, 0, 0);
      emitFaulty(halted, op);
      halted.run(64);
      due("behind a HALT", halted, 0, -1, -1);
    }
  }

  // Promise 14: "a refused call is not a fault"
  private static void aRefusedCallIsNoFault() {
    ScoreboardCpu fresh = new ScoreboardCpu(1, 1, 1, 1);
    refusedCalls(fresh);
    due("refused calls of a fresh object", fresh, 0, -1, -1);
    ScoreboardCpu used = State.used();
    refusedCalls(used);
    due("refused calls after two faults", used, 2, 64, 97);
    ScoreboardCpu full = Situations.make(Situations.FULL);
    Check.due("emit when full", full.emit(ScoreboardCpu.DIV, 0, 0, 0), ScoreboardCpu.FULL);
    due("emit when full", full, 2, 64, 97);
  }

  private static void refusedCalls(ScoreboardCpu cpu) {
    for (int wrong : new int[] {-1, 65, Integer.MIN_VALUE, Integer.MAX_VALUE}) {
      cpu.run(wrong);
      cpu.emit(wrong, 0, 0, 0);
      cpu.emit(ScoreboardCpu.DIV, 0, 0, wrong);
      cpu.emit(ScoreboardCpu.LOAD, wrong, 0, 99);
      cpu.setMemory(wrong, 1);
      cpu.memory(wrong);
      cpu.setRegister(wrong, 1);
      cpu.register(wrong);
      cpu.jump(wrong);
      cpu.setLatency(wrong, 1);
      cpu.latency(wrong);
    }
    cpu.run(0);
  }

  // Promises 15 and 16: "`NONE` if there was none", also when instructions that could have
  // faulted were executed without one
  private static void noneIfThereWasNone() {
    ScoreboardCpu cpu = new ScoreboardCpu(1, 1, 1, 1);
    cpu.setRegister(1, 1);
    cpu.emit(ScoreboardCpu.DIV, 2, 1, 1);
    cpu.emit(ScoreboardCpu.REM, 2, 1, 1);
    cpu.emit(ScoreboardCpu.LOAD, 2, 0, 0);
    cpu.emit(ScoreboardCpu.LOAD, 2, 0, 31);
    cpu.emit(ScoreboardCpu.STORE, 2, 0, 0);
    cpu.emit(ScoreboardCpu.STORE, 2, 0, 31);
    Check.due("run(64)", cpu.run(64), 6);
    due("no fault", cpu, 0, ScoreboardCpu.NONE, ScoreboardCpu.NONE);
  }

  // Promise 16: "After exactly one fault it equals `firstFault()`.", and after the second one no
  // longer, unless the same cell has faulted again
  private static void afterOneFaultBothAreEqual() {
    for (int op : KINDS) {
      ScoreboardCpu cpu = new ScoreboardCpu(1, 1, 1, 1);
      emitFaulty(cpu, op);
      emitFaulty(cpu, op);
      cpu.run(1);
      due("one fault", cpu, 1, code(op, 0), code(op, 0));
      cpu.jump(0);
      cpu.run(1);
      due("the same fault twice", cpu, 2, code(op, 0), code(op, 0));
      cpu.run(1);
      due("another fault", cpu, 3, code(op, 0), code(op, 1));
    }
  }

  // Promise 15: "Once set, it stays until `reset`."
  private static void firstStaysUntilReset() {
    ScoreboardCpu cpu = new ScoreboardCpu(1, 1, 1, 1);
    for (int cell = 0; cell < 32; cell++) {
      emitFaulty(cpu, KINDS[(cell + 2) % 4]);
    }
    for (int call = 0; call < 40; call++) {
      cpu.run(call % 64 + 1);
      Check.due("firstFault() after call " + call, cpu.firstFault(), 64);
      cpu.jump(call % 32);
      cpu.setLatency(call % 4, call);
      Check.due("firstFault() after other calls", cpu.firstFault(), 64);
    }
    cpu.reset();
    due("reset()", cpu, 0, ScoreboardCpu.NONE, ScoreboardCpu.NONE);
    cpu.emit(ScoreboardCpu.ADD, 3, 3, 3);
    emitFaulty(cpu, ScoreboardCpu.STORE);
    cpu.run(64);
    due("the first one after reset()", cpu, 1, 97, 97);
  }

  // Promise 14: "`faultCount()` answers how many faults were raised since the object was made or
  // last reset.": however many these are, and the first and the last one are kept all the while
  private static void theCountGoesOnOverManyCalls() {
    ScoreboardCpu cpu = new ScoreboardCpu(8, 8, 8, 1);
    emitFaulty(cpu, ScoreboardCpu.DIV);
    emitFaulty(cpu, ScoreboardCpu.LOAD);
    emitFaulty(cpu, ScoreboardCpu.STORE);
    cpu.emit(ScoreboardCpu.BEQ, 1, 0, 0);
    cpu.run(1);
    for (int round = 0; round < 3000; round++) {
      int count = 44 * round + 1;
      due("round " + round, cpu, count, 32, round == 0 ? 32 : 98);
      cpu.run(63);
      due("21 times LOAD and STORE, round " + round, cpu, count + 42, 32, 98);
      cpu.run(1);
      due("LOAD once more, round " + round, cpu, count + 43, 32, 65);
      cpu.run(2);
    }
  }
}
