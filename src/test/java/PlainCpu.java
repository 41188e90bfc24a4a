/** The document's machine in its plainest form: one instruction after another, without units. */
final class PlainCpu {
  final int[] registers = new int[8];
  final int[] words = new int[32];
  final int[] latencies = new int[4];
  final int[][] program = new int[32][];
  int length = 0;
  int pc = 0;
  int faultCount = 0;
  int firstFault = -1;
  int lastFault = -1;

  PlainCpu(int... given) {
    for (int unit = 0; unit < 4; unit++) {
      latencies[unit] = Math.max(1, Math.min(8, given[unit]));
    }
  }

  int setLatency(int unit, int cycles) {
    if (unit < 0 || unit > 3) {
      return -1;
    }
    latencies[unit] = Math.max(1, Math.min(8, cycles));
    return 0;
  }

  int emit(int op, int d, int a, int b) {
    if (length == 32) {
      return -2;
    }
    boolean immediate = op == 3 || op == 8 || op == 9;
    boolean fits = op == 0
        || op >= 1 && op <= 12
            && d >= 0 && d <= (op >= 10 ? 31 : 7)
            && a >= 0 && a <= 7
            && (immediate || b >= 0 && b <= 7);
    if (!fits) {
      return -1;
    }
    program[length] = new int[] {op, d, a, b};
    return length++;
  }

  int setRegister(int index, int value) {
    if (index < 0 || index > 7) {
      return -1;
    }
    registers[index] = value;
    return 0;
  }

  int setMemory(int address, int value) {
    if (address < 0 || address > 31) {
      return -1;
    }
    words[address] = value;
    return 0;
  }

  int jump(int cell) {
    if (cell < 0 || cell > 31) {
      return -1;
    }
    pc = cell;
    return 0;
  }

  boolean stopped() {
    return pc >= length || program[pc][0] == 0;
  }

  int run(int count) {
    if (count < 1 || count > 64) {
      return -1;
    }
    int executed = 0;
    while (executed < count && !stopped()) {
      step();
      executed++;
    }
    return executed;
  }

  void reset() {
    length = 0;
    pc = 0;
    faultCount = 0;
    firstFault = -1;
    lastFault = -1;
  }

  int[] state() {
    int[] state = new int[State.SIZE];
    System.arraycopy(registers, 0, state, 0, 8);
    System.arraycopy(words, 0, state, State.WORD_0, 32);
    System.arraycopy(latencies, 0, state, State.LATENCY_0, 4);
    state[State.LENGTH] = length;
    state[State.PC] = pc;
    state[State.STOPPED] = stopped() ? 1 : 0;
    state[State.FAULT_COUNT] = faultCount;
    state[State.FIRST_FAULT] = firstFault;
    state[State.LAST_FAULT] = lastFault;
    return state;
  }

  private void step() {
    int cell = pc;
    int op = program[cell][0];
    int d = program[cell][1];
    int left = registers[program[cell][2]];
    int b = program[cell][3];
    pc = cell + 1;
    switch (op) {
      case 1 -> registers[d] = left + registers[b];
      case 2 -> registers[d] = left - registers[b];
      case 3 -> registers[d] = left + b;
      case 4 -> registers[d] = left < registers[b] ? 1 : 0;
      case 5 -> registers[d] = left * registers[b];
      case 6 -> registers[d] = faults(registers[b] == 0, 1, cell) ? 0 : left / registers[b];
      case 7 -> registers[d] = faults(registers[b] == 0, 1, cell) ? left : left % registers[b];
      case 8 -> registers[d] = faults(outside(left + b), 2, cell) ? 0 : words[left + b];
      case 9 -> {
        if (!faults(outside(left + b), 3, cell)) {
          words[left + b] = registers[d];
        }
      }
      case 10 -> pc = left == registers[b] ? d : pc;
      case 11 -> pc = left != registers[b] ? d : pc;
      default -> pc = left < registers[b] ? d : pc;
    }
  }

  private static boolean outside(int address) {
    return address < 0 || address > 31;
  }

  private boolean faults(boolean raised, int kind, int cell) {
    if (raised) {
      faultCount++;
      lastFault = kind * 32 + cell;
      firstFault = firstFault == -1 ? lastFault : firstFault;
    }
    return raised;
  }
}
