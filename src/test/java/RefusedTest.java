/**
 * What it is: "A refused call (one that answers `REFUSED` or `FULL` because its arguments or the
 * state do not allow it) changes nothing."
 *
 * Every refused call is made in every situation: its answer is looked at, and afterwards every
 * answer of every method, and of all that the program does, must be that of an untouched object.
 */
public final class RefusedTest {
  private static final int MIN = Integer.MIN_VALUE;
  private static final int MAX = Integer.MAX_VALUE;
  private static final int[] NOT_BELOW_4 = {MIN, -2, -1, 4, 5, MAX};
  private static final int[] NOT_BELOW_8 = {MIN, -2, -1, 8, 9, MAX};
  private static final int[] NOT_BELOW_32 = {MIN, -2, -1, 32, 33, MAX};

  public static void main(String[] args) {
    setLatencyOfAWrongUnit();
    latencyOfAWrongUnit();
    setRegisterOfAWrongIndex();
    setMemoryOfAWrongAddress();
    jumpToAWrongCell();
    runOfAWrongCount();
    emitOfAWrongOpcode();
    emitOfAWrongField();
    emitIntoAFullProgram();
    manyRefusedCallsInARow();
    refusedAndNoneAreBothMinusOne();
    Check.end();
  }

  private static void setLatencyOfAWrongUnit() {
    for (int unit : NOT_BELOW_4) {
      for (int cycles : new int[] {MIN, 0, 1, 3, 8, 9, MAX}) {
        String name = "setLatency(" + unit + ", " + cycles + ")";
        refused(name, cpu -> cpu.setLatency(unit, cycles));
      }
    }
  }

  private static void latencyOfAWrongUnit() {
    for (int unit : NOT_BELOW_4) {
      refused("latency(" + unit + ")", cpu -> cpu.latency(unit));
    }
  }

  private static void setRegisterOfAWrongIndex() {
    for (int index : NOT_BELOW_8) {
      for (int value : new int[] {MIN, 0, 77, MAX}) {
        String name = "setRegister(" + index + ", " + value + ")";
        refused(name, cpu -> cpu.setRegister(index, value));
      }
    }
  }

  private static void setMemoryOfAWrongAddress() {
    for (int address : NOT_BELOW_32) {
      for (int value : new int[] {MIN, 0, 77, MAX}) {
        String name = "setMemory(" + address + ", " + value + ")";
        refused(name, cpu -> cpu.setMemory(address, value));
      }
    }
  }

  private static void jumpToAWrongCell() {
    for (int cell : NOT_BELOW_32) {
      refused("jump(" + cell + ")", cpu -> cpu.jump(cell));
    }
  }

  private static void runOfAWrongCount() {
    for (int count : new int[] {MIN, -64, -1, 0, 65, 66, 128, MAX}) {
      refused("run(" + count + ")", cpu -> cpu.run(count));
    }
  }

  private static void emitOfAWrongOpcode() {
    for (int op : new int[] {MIN, -2, -1, 13, 14, MAX}) {
      refusedEmit(op, 0, 0, 0);
      refusedEmit(op, 7, 7, 7);
      refusedEmit(op, -1, 8, MAX);
    }
  }

  private static void emitOfAWrongField() {
    for (int op = ScoreboardCpu.ADD; op <= ScoreboardCpu.BLT; op++) {
      boolean branch = op >= ScoreboardCpu.BEQ;
      for (int wrong : branch ? NOT_BELOW_32 : NOT_BELOW_8) {
        refusedEmit(op, wrong, 1, 2);
      }
      for (int wrong : NOT_BELOW_8) {
        refusedEmit(op, 1, wrong, 2);
        if (!takesAnyB(op)) {
          refusedEmit(op, 1, 2, wrong);
        }
      }
      refusedEmit(op, -1, -1, -1);
    }
  }

  private static boolean takesAnyB(int op) {
    return op == ScoreboardCpu.ADDI || op == ScoreboardCpu.LOAD || op == ScoreboardCpu.STORE;
  }

  private static void refusedEmit(int op, int d, int a, int b) {
    for (int situation = 0; situation < Situations.COUNT; situation++) {
      int due = Situations.isFull(situation) ? ScoreboardCpu.FULL : ScoreboardCpu.REFUSED;
      String name = "emit(" + op + ", " + d + ", " + a + ", " + b + ")";
      refusedIn(situation, name, cpu -> cpu.emit(op, d, a, b), due);
    }
  }

  private static void emitIntoAFullProgram() {
    int[] full = {Situations.FULL, Situations.FULL_AT_32, Situations.FULL_WITHOUT_FAULT};
    for (int situation : full) {
      for (int op = ScoreboardCpu.HALT; op <= ScoreboardCpu.BLT; op++) {
        int opcode = op;
        String name = "emit(" + op + ", 1, 2, 3)";
        refusedIn(situation, name, cpu -> cpu.emit(opcode, 1, 2, 3), ScoreboardCpu.FULL);
      }
    }
  }

  private static void manyRefusedCallsInARow() {
    for (int situation = 0; situation < Situations.COUNT; situation++) {
      ScoreboardCpu cpu = Situations.make(situation);
      for (int i = 0; i < 100; i++) {
        cpu.setLatency(4, 1);
        cpu.emit(13, 0, 0, 0);
        cpu.setRegister(8, 1);
        cpu.setMemory(32, 1);
        cpu.jump(32);
        cpu.run(65);
      }
      Check.untouched("many refused calls" + Situations.name(situation), cpu, situation);
    }
  }

  // "`REFUSED` and `NONE` are both -1."
  private static void refusedAndNoneAreBothMinusOne() {
    Check.due("REFUSED", ScoreboardCpu.REFUSED, -1);
    Check.due("NONE", ScoreboardCpu.NONE, -1);
  }

  private static void refused(String name, Call call) {
    for (int situation = 0; situation < Situations.COUNT; situation++) {
      refusedIn(situation, name, call, ScoreboardCpu.REFUSED);
    }
  }

  private static void refusedIn(int situation, String name, Call call, int due) {
    ScoreboardCpu cpu = Situations.make(situation);
    String what = name + Situations.name(situation);
    Check.due(what, call.on(cpu), due);
    Check.untouched(what, cpu, situation);
  }
}
