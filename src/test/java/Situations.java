/** The kinds of state that the document tells apart, each made anew by the same calls. */
final class Situations {
  static final int FRESH = 0;
  static final int BEFORE_ADD = 1;
  static final int AT_LENGTH = 2;
  static final int ON_HALT = 3;
  static final int BEYOND_LENGTH = 4;
  static final int ONE_CELL_FREE = 5;
  static final int FULL = 6;
  static final int FULL_AT_32 = 7;
  static final int AFTER_RESET = 8;
  static final int AFTER_WORK_IN_ALL_UNITS = 9;
  static final int EMPTY_AT_31 = 10;
  static final int FULL_WITHOUT_FAULT = 11;
  static final int MANY_FAULTS = 12;
  static final int COUNT = 13;

  private static final String[] NAMES = {
    "fresh", "before an ADD", "at length", "on a HALT", "beyond length", "one cell free", "full",
    "full, at 32", "after a reset", "after work in all units", "empty, at 31",
    "full, without a fault", "many faults"
  };

  private Situations() {}

  static String name(int situation) {
    return " [" + NAMES[situation] + "]";
  }

  static boolean isFull(int situation) {
    return situation == FULL || situation == FULL_AT_32 || situation == FULL_WITHOUT_FAULT;
  }

  static boolean isStopped(int situation) {
    return situation == FRESH || situation == AT_LENGTH || situation == ON_HALT
        || situation == BEYOND_LENGTH || situation == FULL_AT_32 || situation == AFTER_RESET
        || situation == EMPTY_AT_31;
  }

  static ScoreboardCpu make(int situation) {
    if (situation == FRESH || situation == EMPTY_AT_31) {
      return empty(situation);
    }
    ScoreboardCpu cpu = State.used();
    switch (situation) {
      case AT_LENGTH -> cpu.run(64);
      case ON_HALT -> standOnHalt(cpu);
      case BEYOND_LENGTH -> cpu.jump(20);
      case ONE_CELL_FREE -> fillUpTo(cpu, 31);
      case FULL -> fillUpTo(cpu, 32);
      case FULL_AT_32 -> runFullProgram(cpu);
      case AFTER_RESET -> cpu.reset();
      case FULL_WITHOUT_FAULT -> fillAnew(cpu);
      case AFTER_WORK_IN_ALL_UNITS -> workInAllUnits(cpu);
      case MANY_FAULTS -> raiseManyFaults(cpu);
      default -> { }
    }
    return cpu;
  }

  private static ScoreboardCpu empty(int situation) {
    ScoreboardCpu cpu = new ScoreboardCpu(1, 8, 4, 2);
    if (situation == EMPTY_AT_31) {
      cpu.jump(31);
    }
    return cpu;
  }

  private static void standOnHalt(ScoreboardCpu cpu) {
    cpu.emit(ScoreboardCpu.HALT, -1, 32, Integer.MIN_VALUE);
    cpu.emit(ScoreboardCpu.SUB, 4, 5, 6);
    cpu.run(64);
  }

  private static void fillUpTo(ScoreboardCpu cpu, int length) {
    for (int cell = cpu.length(); cell < length; cell++) {
      cpu.emit(cell % 9 + 1, cell % 8, (cell + 3) % 8, (cell + 5) % 8);
    }
  }

  private static void fillAnew(ScoreboardCpu cpu) {
    cpu.reset();
    fillUpTo(cpu, 32);
  }

  private static void runFullProgram(ScoreboardCpu cpu) {
    fillUpTo(cpu, 32);
    cpu.run(64);
  }

  private static void raiseManyFaults(ScoreboardCpu cpu) {
    cpu.setRegister(0, 0);
    cpu.emit(ScoreboardCpu.REM, 4, 5, 0);
    cpu.emit(ScoreboardCpu.STORE, 4, 0, 32);
    cpu.emit(ScoreboardCpu.BEQ, 3, 0, 0);
    for (int call = 0; call < 7; call++) {
      cpu.run(64);
    }
  }

  private static void workInAllUnits(ScoreboardCpu cpu) {
    for (int unit = 0; unit < 4; unit++) {
      cpu.setLatency(unit, 8);
    }
    cpu.emit(ScoreboardCpu.DIV, 1, 2, 3);
    cpu.emit(ScoreboardCpu.MUL, 4, 2, 3);
    cpu.emit(ScoreboardCpu.STORE, 5, 6, 7);
    cpu.emit(ScoreboardCpu.ADDI, 7, 2, 3);
    cpu.run(64);
    cpu.jump(1);
  }
}
