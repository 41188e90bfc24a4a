/** Everything that the public face tells of an object, as one array. */
final class State {
  static final int WORD_0 = 8;
  static final int LATENCY_0 = 40;
  static final int LENGTH = 44;
  static final int PC = 45;
  static final int STOPPED = 46;
  static final int FAULT_COUNT = 47;
  static final int FIRST_FAULT = 48;
  static final int LAST_FAULT = 49;
  static final int SIZE = 50;

  private State() {}

  static int[] of(ScoreboardCpu cpu) {
    int[] state = new int[SIZE];
    for (int i = 0; i < 8; i++) {
      state[i] = cpu.register(i);
    }
    for (int i = 0; i < 32; i++) {
      state[WORD_0 + i] = cpu.memory(i);
    }
    for (int i = 0; i < 4; i++) {
      state[LATENCY_0 + i] = cpu.latency(i);
    }
    state[LENGTH] = cpu.length();
    state[PC] = cpu.pc();
    state[STOPPED] = cpu.stopped() ? 1 : 0;
    state[FAULT_COUNT] = cpu.faultCount();
    state[FIRST_FAULT] = cpu.firstFault();
    state[LAST_FAULT] = cpu.lastFault();
    return state;
  }

  static String name(int entry) {
    if (entry < WORD_0) {
      return "register(" + entry + ")";
    }
    if (entry < LATENCY_0) {
      return "memory(" + (entry - WORD_0) + ")";
    }
    if (entry < LENGTH) {
      return "latency(" + (entry - LATENCY_0) + ")";
    }
    String[] rest = {
      "length()", "pc()", "stopped()", "faultCount()", "firstFault()", "lastFault()"
    };
    return rest[entry - LENGTH];
  }

  /** An object in which no part of the state is as in a fresh one, standing before an ADD. */
  static ScoreboardCpu used() {
    ScoreboardCpu cpu = new ScoreboardCpu(2, 3, 4, 5);
    for (int i = 0; i < 8; i++) {
      cpu.setRegister(i, 100 + i);
    }
    for (int i = 0; i < 32; i++) {
      cpu.setMemory(i, 1000 + i);
    }
    cpu.emit(ScoreboardCpu.LOAD, 6, 0, 0);
    cpu.emit(ScoreboardCpu.STORE, 6, 0, 0);
    cpu.emit(ScoreboardCpu.ADD, 1, 2, 3);
    cpu.run(2);
    return cpu;
  }
}
