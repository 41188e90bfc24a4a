/** What no answer tells at once, above all the program: brought out by later calls. */
final class Inside {
  private static final int FILLINGS = 3;
  private static final int PER_CELL = 8 + 32 + 5;
  private static final int PROGRAM = FILLINGS * 32 * PER_CELL;

  private Inside() {}

  /** Runs on from the pc, then each cell alone, then fills the program up: this uses it up. */
  static int[] of(ScoreboardCpu cpu) {
    int[] told = new int[2 + State.SIZE + PROGRAM + 33];
    int free = 0;
    told[free++] = cpu.run(64);
    free = append(told, free, State.of(cpu));
    free = append(told, free, program(cpu));
    told[free++] = cpu.length();
    for (int i = 0; i < 33; i++) {
      told[free++] = cpu.emit(ScoreboardCpu.ADD, 0, 0, 0);
    }
    return told;
  }

  /** What each cell does when it is executed alone: tells op, d, a and b, and nothing but these. */
  static int[] program(ScoreboardCpu cpu) {
    int[] told = new int[PROGRAM];
    int free = 0;
    for (int filling = 0; filling < FILLINGS; filling++) {
      for (int cell = 0; cell < 32; cell++) {
        free = append(told, free, oneCell(cpu, cell, filling));
      }
    }
    return told;
  }

  static String name(int entry) {
    if (entry == 0) {
      return "run(64)";
    }
    if (entry <= State.SIZE) {
      return "run(64), then " + State.name(entry - 1);
    }
    int inProgram = entry - 1 - State.SIZE;
    return inProgram < PROGRAM ? programName(inProgram) : "the room left";
  }

  static String programName(int entry) {
    return "cell " + entry / PER_CELL % 32 + " alone";
  }

  private static int[] oneCell(ScoreboardCpu cpu, int cell, int filling) {
    int[] told = new int[PER_CELL];
    for (int i = 0; i < 8; i++) {
      cpu.setRegister(i, registerFor(i, filling));
    }
    for (int i = 0; i < 32; i++) {
      cpu.setMemory(i, 100003 + 1009 * i);
    }
    cpu.jump(cell);
    int faults = cpu.faultCount();
    told[40] = cpu.run(1);
    for (int i = 0; i < 8; i++) {
      told[i] = cpu.register(i);
    }
    for (int i = 0; i < 32; i++) {
      told[8 + i] = cpu.memory(i);
    }
    told[41] = cpu.pc();
    told[42] = cpu.stopped() ? 1 : 0;
    told[43] = cpu.faultCount() - faults;
    told[44] = told[43] == 0 ? 0 : cpu.lastFault();
    return told;
  }

  // Once rising and once falling far apart, and once equal, so that each branch goes both ways.
  private static int registerFor(int index, int filling) {
    switch (filling) {
      case 0:
        return 3 * index;
      case 1:
        return 1000000007 >> (2 * index);
      default:
        return 0;
    }
  }

  private static int append(int[] told, int free, int[] more) {
    System.arraycopy(more, 0, told, free, more.length);
    return free + more.length;
  }
}
