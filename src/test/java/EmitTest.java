/** Promises 4 and 5: emit and length. */
public final class EmitTest {
  private static final int MIN = Integer.MIN_VALUE;
  private static final int MAX = Integer.MAX_VALUE;
  private static final int[] ANY = {MIN, -2, -1, 0, 1, 7, 8, 9, 31, 32, 1000, MAX};
  private static final int[] THREE_REGISTERS = {
    ScoreboardCpu.ADD, ScoreboardCpu.SUB, ScoreboardCpu.SLT,
    ScoreboardCpu.MUL, ScoreboardCpu.DIV, ScoreboardCpu.REM
  };
  private static final int[] ANY_B = {ScoreboardCpu.ADDI, ScoreboardCpu.LOAD, ScoreboardCpu.STORE};
  private static final int[] BRANCHES = {ScoreboardCpu.BEQ, ScoreboardCpu.BNE, ScoreboardCpu.BLT};

  public static void main(String[] args) {
    thirtyTwoCellsAndNoMore();
    fullComesFirstWhateverTheArguments();
    anOpcodeOutside0To12IsRefused();
    haltTakesAnyFields();
    threeRegistersMustBeRegisters();
    anImmediateMayBeAnyInt();
    aBranchGoesToOneOf32Cells();
    aBranchMayGoToLengthOrBeyond();
    everyMixOfFields();
    fullOrRefusedChangesNothing();
    theAnswerIsTheLengthBefore();
    emitIsAllowedAtAnyTime();
    theRestStays();
    aStoppedMachineMayGoOn();
    lengthCountsTheCells();
    everyCellTakesEveryOpcode();
    cellsKeepTheirInstructions();
    Check.end();
  }

  private static ScoreboardCpu withLength(int length) {
    ScoreboardCpu cpu = new ScoreboardCpu(1, 1, 1, 1);
    for (int cell = 0; cell < length; cell++) {
      cpu.emit(ScoreboardCpu.ADDI, 1, 1, 1);
    }
    return cpu;
  }

  private static void tryEmit(int op, int d, int a, int b, boolean accepted) {
    ScoreboardCpu cpu = new ScoreboardCpu(1, 1, 1, 1);
    String call = "emit(" + op + ", " + d + ", " + a + ", " + b + ")";
    Check.due(call, cpu.emit(op, d, a, b), accepted ? 0 : ScoreboardCpu.REFUSED);
    Check.due(call + ", then length()", cpu.length(), accepted ? 1 : 0);
    Check.due(call + ", then pc()", cpu.pc(), 0);
    Check.due(call + ", then stopped()", cpu.stopped(), !accepted || op == 0);
  }

  // What it is: "A program of up to 32 instructions is entered one instruction a call"
  private static void thirtyTwoCellsAndNoMore() {
    ScoreboardCpu cpu = new ScoreboardCpu(1, 1, 1, 1);
    for (int cell = 0; cell < 32; cell++) {
      Check.due("emit into cell " + cell, cpu.emit(ScoreboardCpu.ADDI, 1, 1, 1), cell);
    }
    Check.due("emit after cell 31", cpu.emit(ScoreboardCpu.ADDI, 1, 1, 1), ScoreboardCpu.FULL);
    Check.due("emit after that", cpu.emit(ScoreboardCpu.ADDI, 1, 1, 1), ScoreboardCpu.FULL);
    Check.due("run(64)", cpu.run(64), 32);
    Check.due("register(1)", cpu.register(1), 32);
  }

  // "If length is 32, the answer is `FULL`, whatever the arguments are."
  private static void fullComesFirstWhateverTheArguments() {
    int[] ops = {MIN, -1, 0, 1, 3, 8, 9, 10, 12, 13, MAX};
    for (int op : ops) {
      for (int field : ANY) {
        String call = "emit(" + op + ", " + field + ", " + field + ", " + field + ")";
        int full = withLength(32).emit(op, field, field, field);
        Check.due(call + " when full", full, ScoreboardCpu.FULL);
        int almost = withLength(31).emit(op, field, field, field);
        boolean accepted = isAccepted(op, field, field, field);
        Check.due(call + " with a cell free", almost, accepted ? 31 : ScoreboardCpu.REFUSED);
      }
    }
  }

  // "Otherwise, if `op` is not in 0..12, the answer is `REFUSED`."
  private static void anOpcodeOutside0To12IsRefused() {
    for (int op : new int[] {MIN, MIN + 1, -13, -2, -1, 13, 14, 16, 32, MAX}) {
      tryEmit(op, 0, 0, 0, false);
      tryEmit(op, 1, 2, 3, false);
      tryEmit(op, -1, 32, MAX, false);
    }
    for (int op = 0; op <= 12; op++) {
      tryEmit(op, 1, 2, 3, true);
    }
  }

  // "`HALT`: nothing more is required; `d`, `a`, `b` may be any ints"
  private static void haltTakesAnyFields() {
    for (int d : ANY) {
      for (int a : ANY) {
        for (int b : ANY) {
          tryEmit(ScoreboardCpu.HALT, d, a, b, true);
        }
      }
    }
  }

  // "the answer is `REFUSED` unless `d`, `a`, `b` are all in 0..7"
  private static void threeRegistersMustBeRegisters() {
    for (int op : THREE_REGISTERS) {
      for (int field : ANY) {
        boolean register = field >= 0 && field <= 7;
        tryEmit(op, field, 0, 7, register);
        tryEmit(op, 7, field, 0, register);
        tryEmit(op, 0, 7, field, register);
      }
    }
  }

  // "the answer is `REFUSED` unless `d` and `a` are in 0..7; `b` is any int"
  private static void anImmediateMayBeAnyInt() {
    for (int op : ANY_B) {
      for (int field : ANY) {
        boolean register = field >= 0 && field <= 7;
        tryEmit(op, field, 0, 7, register);
        tryEmit(op, 7, field, 0, register);
        tryEmit(op, 0, 7, field, true);
        tryEmit(op, 8, 7, field, false);
        tryEmit(op, 0, -1, field, false);
      }
    }
  }

  // "the answer is `REFUSED` unless `d` is in 0..31 and `a` and `b` are in 0..7"
  private static void aBranchGoesToOneOf32Cells() {
    for (int op : BRANCHES) {
      for (int d = -2; d <= 33; d++) {
        tryEmit(op, d, 0, 7, d >= 0 && d <= 31);
      }
      tryEmit(op, MIN, 0, 7, false);
      tryEmit(op, MAX, 0, 7, false);
      for (int field : ANY) {
        boolean register = field >= 0 && field <= 7;
        tryEmit(op, 31, field, 0, register);
        tryEmit(op, 31, 7, field, register);
      }
    }
  }

  // "`d` may be at or beyond the present length"
  private static void aBranchMayGoToLengthOrBeyond() {
    for (int op : BRANCHES) {
      for (int length = 0; length < 32; length++) {
        for (int d = Math.max(0, length - 1); d <= Math.min(31, length + 2); d++) {
          String call = "emit(" + op + ", " + d + ", 0, 0) with length " + length;
          Check.due(call, withLength(length).emit(op, d, 0, 0), length);
        }
        Check.due("a branch to 31", withLength(length).emit(op, 31, 0, 0), length);
        Check.due("a branch to 32", withLength(length).emit(op, 32, 0, 0), ScoreboardCpu.REFUSED);
      }
    }
  }

  private static void everyMixOfFields() {
    int[] ops = {MIN, -1, 0, 1, 2, 3, 4, 5, 6, 7, 8, 9, 10, 11, 12, 13, MAX};
    for (int op : ops) {
      for (int d : ANY) {
        for (int a : ANY) {
          for (int b : ANY) {
            tryEmit(op, d, a, b, isAccepted(op, d, a, b));
          }
        }
      }
    }
  }

  private static boolean isAccepted(int op, int d, int a, int b) {
    boolean registerD = d >= 0 && d <= 7;
    boolean registerA = a >= 0 && a <= 7;
    boolean registerB = b >= 0 && b <= 7;
    switch (op) {
      case 0:
        return true;
      case 1: case 2: case 4: case 5: case 6: case 7:
        return registerD && registerA && registerB;
      case 3: case 8: case 9:
        return registerD && registerA;
      case 10: case 11: case 12:
        return d >= 0 && d <= 31 && registerA && registerB;
      default:
        return false;
    }
  }

  // "If the answer is `FULL` or `REFUSED`, nothing changes.": all of them are in RefusedTest; here
  // the cell that a refused instruction would have gone into is looked at when it is filled
  private static void fullOrRefusedChangesNothing() {
    ScoreboardCpu cpu = withLength(4);
    Check.due("refused emit", cpu.emit(ScoreboardCpu.DIV, 1, 2, 8), ScoreboardCpu.REFUSED);
    Check.due("length() after it", cpu.length(), 4);
    Check.due("emit after it", cpu.emit(ScoreboardCpu.ADDI, 2, 0, 55), 4);
    Check.due("run(64)", cpu.run(64), 5);
    Check.due("register(2)", cpu.register(2), 55);
    Check.due("faultCount()", cpu.faultCount(), 0);
    ScoreboardCpu full = withLength(32);
    Check.due("emit when full", full.emit(ScoreboardCpu.HALT, 0, 0, 0), ScoreboardCpu.FULL);
    Check.due("length() after it", full.length(), 32);
    Check.due("run(64) of 32 instructions still", full.run(64), 32);
  }

  // "the instruction goes into the cell whose number is the length before the call, length grows
  // by 1, and the answer is the number of that cell (0..31)"
  private static void theAnswerIsTheLengthBefore() {
    ScoreboardCpu cpu = new ScoreboardCpu(1, 1, 1, 1);
    for (int cell = 0; cell < 32; cell++) {
      Check.due("length() before cell " + cell, cpu.length(), cell);
      Check.due("refused emit before cell " + cell, cpu.emit(13, 0, 0, 0), ScoreboardCpu.REFUSED);
      Check.due("emit into cell " + cell, cpu.emit(cell % 13, 1, 2, 3), cell);
      Check.due("length() after cell " + cell, cpu.length(), cell + 1);
    }
  }

  // "The call is allowed at any time, also after runs."
  private static void emitIsAllowedAtAnyTime() {
    for (int situation = 0; situation < Situations.COUNT; situation++) {
      for (int op = 0; op <= 12; op++) {
        ScoreboardCpu cpu = Situations.make(situation);
        int length = cpu.length();
        String call = "emit(" + op + ", 1, 2, 3)" + Situations.name(situation);
        boolean full = Situations.isFull(situation);
        Check.due(call, cpu.emit(op, 1, 2, 3), full ? ScoreboardCpu.FULL : length);
      }
    }
  }

  // "The pc stays, and so do the earlier cells, registers, memory, latencies and faults."
  private static void theRestStays() {
    for (int situation = 0; situation < Situations.COUNT; situation++) {
      if (!Situations.isFull(situation)) {
        for (int op = 0; op <= 12; op++) {
          theRestStays(situation, op);
        }
      }
    }
  }

  private static void theRestStays(int situation, int op) {
    ScoreboardCpu cpu = Situations.make(situation);
    int[] before = State.of(cpu);
    String call = "emit(" + op + ", 2, 3, 4)" + Situations.name(situation);
    cpu.emit(op, 2, 3, 4);
    Check.same(call, before, State.of(cpu), State.LENGTH, State.STOPPED);
    earlierCellsStay(call, cpu, Situations.make(situation));
  }

  private static void earlierCellsStay(String call, ScoreboardCpu cpu, ScoreboardCpu twin) {
    int[] filled = {5, 50, 500, 5000, 1, 2, 3, 4};
    for (int cell = 0; cell < twin.length(); cell++) {
      for (int index = 0; index < 8; index++) {
        cpu.setRegister(index, filled[index]);
        twin.setRegister(index, filled[index]);
      }
      cpu.jump(cell);
      twin.jump(cell);
      Check.due(call + ", then run(1) at " + cell, cpu.run(1), twin.run(1));
      Check.same(call + ", then run(1) at " + cell, State.of(twin), State.of(cpu),
          State.LENGTH, State.STOPPED);
    }
  }

  // "Since length grows, a machine that was stopped because its pc was at length may no longer be
  // stopped afterwards.": it goes on at length, but not on a HALT, and not one cell beyond
  private static void aStoppedMachineMayGoOn() {
    for (int length = 0; length < 31; length++) {
      Check.due("pc at length", stoppedAfterEmit(length, length, ScoreboardCpu.ADD), false);
      Check.due("pc at length, HALT", stoppedAfterEmit(length, length, ScoreboardCpu.HALT), true);
      Check.due("pc beyond", stoppedAfterEmit(length, length + 1, ScoreboardCpu.ADD), true);
    }
    Check.due("pc at length 31", stoppedAfterEmit(31, 31, ScoreboardCpu.ADD), false);
    ScoreboardCpu cpu = withLength(1);
    Check.due("run(64)", cpu.run(64), 1);
    Check.due("stopped() at length", cpu.stopped(), true);
    Check.due("emit", cpu.emit(ScoreboardCpu.ADDI, 1, 1, 7), 1);
    Check.due("pc() stays", cpu.pc(), 1);
    Check.due("stopped() no more", cpu.stopped(), false);
    Check.due("run(64) again", cpu.run(64), 1);
    Check.due("register(1)", cpu.register(1), 8);
  }

  private static boolean stoppedAfterEmit(int length, int pc, int op) {
    ScoreboardCpu cpu = withLength(length);
    cpu.jump(pc);
    Check.due("stopped() at " + pc + " with length " + length, cpu.stopped(), true);
    cpu.emit(op, 0, 0, 0);
    Check.due("run(1) afterwards", cpu.run(1), cpu.pc() - pc);
    cpu.jump(pc);
    return cpu.stopped();
  }

  // Promise 5: "`length()` answers the number of program cells filled, 0..32."
  private static void lengthCountsTheCells() {
    for (int length = 0; length <= 32; length++) {
      for (int op = 0; op <= 12; op++) {
        lengthOf(length, op);
      }
    }
    ScoreboardCpu cpu = withLength(33);
    Check.due("length() after 33 calls", cpu.length(), 32);
    cpu.reset();
    Check.due("length() after a reset", cpu.length(), 0);
  }

  private static void lengthOf(int length, int op) {
    ScoreboardCpu cpu = new ScoreboardCpu(1, 1, 1, 1);
    for (int cell = 0; cell < length; cell++) {
      cpu.emit(op, 1, 1, 1);
    }
    String what = "length() of " + length + " with opcode " + op;
    Check.due(what, cpu.length(), length);
    cpu.run(64);
    cpu.jump(31);
    Check.due(what + " after a run and a jump", cpu.length(), length);
    cpu.emit(-1, 0, 0, 0);
    Check.due(what + " after a refusal", cpu.length(), length);
  }

  // Every opcode in every cell, with registers that are apart, equal, and apart the other way.
  private static void everyCellTakesEveryOpcode() {
    for (int op = 0; op <= 12; op++) {
      for (int cell = 0; cell < 32; cell++) {
        for (int apart = -1; apart <= 1; apart++) {
          tryInCell(op, cell, apart);
        }
      }
    }
  }

  private static void tryInCell(int op, int cell, int apart) {
    ScoreboardCpu cpu = new ScoreboardCpu(2, 2, 2, 2);
    PlainCpu plain = new PlainCpu(2, 2, 2, 2);
    for (int i = 0; i < 32; i++) {
      int each = i == cell ? op : i % 13;
      cpu.emit(each, 5, 6, 7);
      plain.emit(each, 5, 6, 7);
      cpu.setMemory(i, i + 40);
      plain.setMemory(i, i + 40);
    }
    for (int index = 5; index <= 7; index++) {
      cpu.setRegister(index, 9 + apart * index);
      plain.setRegister(index, 9 + apart * index);
    }
    cpu.jump(cell);
    plain.jump(cell);
    String what = "run(1) of opcode " + op + " in cell " + cell;
    Check.due(what, cpu.run(1), plain.run(1));
    Check.same(what, plain.state(), State.of(cpu));
  }

  private static void cellsKeepTheirInstructions() {
    ScoreboardCpu cpu = new ScoreboardCpu(4, 3, 2, 1);
    for (int cell = 0; cell < 32; cell++) {
      cpu.emit(ScoreboardCpu.ADDI, cell % 8, (cell + 3) % 8, cell * 1000);
    }
    cpu.emit(ScoreboardCpu.ADDI, 0, 0, 5);
    for (int cell = 0; cell < 32; cell++) {
      cpu.setRegister((cell + 3) % 8, 7);
      cpu.jump(cell);
      Check.due("run(1) at " + cell, cpu.run(1), 1);
      Check.due("register after cell " + cell, cpu.register(cell % 8), 7 + cell * 1000);
    }
  }
}
