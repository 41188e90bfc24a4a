/**
 * A small processor with four working units under one scoreboard.
 *
 * Instructions start in program order, one a cycle, and finish whenever their unit is done. An
 * instruction starts only when its unit is free and no unit at work has still to write a register
 * that it reads or writes. This makes every answer that of executing one instruction after another.
 */
public final class ScoreboardCpu {

  // Answers
  public static final int OK = 0;
  public static final int REFUSED = -1;
  public static final int FULL = -2;
  public static final int NONE = -1;

  // Sizes and limits
  public static final int REGISTERS = 8;
  public static final int WORDS = 32;
  public static final int CELLS = 32;
  public static final int UNITS = 4;
  public static final int MAX_LATENCY = 8;
  public static final int MAX_RUN = 64;

  // Units
  public static final int ADDER = 0;
  public static final int MULTIPLIER = 1;
  public static final int DIVIDER = 2;
  public static final int MEMORY_UNIT = 3;

  // Opcodes
  public static final int HALT = 0;
  public static final int ADD = 1;
  public static final int SUB = 2;
  public static final int ADDI = 3;
  public static final int SLT = 4;
  public static final int MUL = 5;
  public static final int DIV = 6;
  public static final int REM = 7;
  public static final int LOAD = 8;
  public static final int STORE = 9;
  public static final int BEQ = 10;
  public static final int BNE = 11;
  public static final int BLT = 12;

  // Fault kinds
  public static final int FAULT_DIVIDE = 1;
  public static final int FAULT_LOAD = 2;
  public static final int FAULT_STORE = 3;

  private final int[] registers = new int[REGISTERS];
  private final int[] words = new int[WORDS];
  private final int[] latencies = new int[UNITS];

  private final int[] cellOp = new int[CELLS];
  private final int[] cellD = new int[CELLS];
  private final int[] cellA = new int[CELLS];
  private final int[] cellB = new int[CELLS];
  private int length = 0;
  private int pc = 0;

  private int faultCount = 0;
  private int firstFault = NONE;
  private int lastFault = NONE;

  // The scoreboard: true for a register that a unit at work has still to write.
  private final boolean[] awaited = new boolean[REGISTERS];

  // What each unit works on. No cycles left means that the unit is free.
  private final int[] cyclesLeft = new int[UNITS];
  private final int[] unitCell = new int[UNITS];
  private final int[] unitLeft = new int[UNITS];
  private final int[] unitRight = new int[UNITS];
  private final int[] unitStored = new int[UNITS];

  public ScoreboardCpu(int adder, int multiplier, int divider, int memoryUnit) {
    latencies[ADDER] = clampedLatency(adder);
    latencies[MULTIPLIER] = clampedLatency(multiplier);
    latencies[DIVIDER] = clampedLatency(divider);
    latencies[MEMORY_UNIT] = clampedLatency(memoryUnit);
  }

  public int setLatency(int unit, int cycles) {
    if (!isBelow(unit, UNITS)) {
      return REFUSED;
    }
    latencies[unit] = clampedLatency(cycles);
    return OK;
  }

  public int latency(int unit) {
    return isBelow(unit, UNITS) ? latencies[unit] : REFUSED;
  }

  public int emit(int op, int d, int a, int b) {
    if (length >= CELLS) {
      return FULL;
    }
    if (!isInstruction(op, d, a, b)) {
      return REFUSED;
    }
    int cell = length;
    cellOp[cell] = op;
    cellD[cell] = d;
    cellA[cell] = a;
    cellB[cell] = b;
    length = cell + 1;
    return cell;
  }

  public int length() {
    return length;
  }

  public int setRegister(int index, int value) {
    if (!isBelow(index, REGISTERS)) {
      return REFUSED;
    }
    registers[index] = value;
    return OK;
  }

  public int register(int index) {
    return isBelow(index, REGISTERS) ? registers[index] : 0;
  }

  public int setMemory(int address, int value) {
    if (!isBelow(address, WORDS)) {
      return REFUSED;
    }
    words[address] = value;
    return OK;
  }

  public int memory(int address) {
    return isBelow(address, WORDS) ? words[address] : 0;
  }

  public int jump(int cell) {
    if (!isBelow(cell, CELLS)) {
      return REFUSED;
    }
    pc = cell;
    return OK;
  }

  public int pc() {
    return pc;
  }

  public int run(int count) {
    if (count < 1 || count > MAX_RUN) {
      return REFUSED;
    }
    int executed = 0;
    while (executed < count && !stopped()) {
      waitToStart(pc);
      start(pc);
      passCycle();
      executed++;
    }
    drain();
    return executed;
  }

  public boolean stopped() {
    return pc >= length || cellOp[pc] == HALT;
  }

  public int faultCount() {
    return faultCount;
  }

  public int firstFault() {
    return firstFault;
  }

  public int lastFault() {
    return lastFault;
  }

  // The units need no clearing here, since every run leaves them drained.
  public void reset() {
    length = 0;
    pc = 0;
    faultCount = 0;
    firstFault = NONE;
    lastFault = NONE;
  }

  private static boolean isBelow(int index, int size) {
    return index >= 0 && index < size;
  }

  private static int clampedLatency(int cycles) {
    if (cycles < 1) {
      return 1;
    }
    return cycles > MAX_LATENCY ? MAX_LATENCY : cycles;
  }

  private static boolean isInstruction(int op, int d, int a, int b) {
    if (op == HALT) {
      return true;
    }
    if (op < HALT || op > BLT || !isBelow(a, REGISTERS)) {
      return false;
    }
    if (namesRegisterInB(op) && !isBelow(b, REGISTERS)) {
      return false;
    }
    return isBranch(op) ? isBelow(d, CELLS) : isBelow(d, REGISTERS);
  }

  private static boolean isBranch(int op) {
    return op == BEQ || op == BNE || op == BLT;
  }

  private static boolean namesRegisterInB(int op) {
    return op != ADDI && op != LOAD && op != STORE;
  }

  private static int unitOf(int op) {
    switch (op) {
      case MUL:
        return MULTIPLIER;
      case DIV:
      case REM:
        return DIVIDER;
      case LOAD:
      case STORE:
        return MEMORY_UNIT;
      default:
        return ADDER;
    }
  }

  // No unit works longer than MAX_LATENCY cycles, so by then nothing is left to wait for.
  private void waitToStart(int cell) {
    for (int cycle = 0; cycle < MAX_LATENCY && mustWait(cell); cycle++) {
      passCycle();
    }
  }

  private boolean mustWait(int cell) {
    int op = cellOp[cell];
    if (awaited[cellA[cell]] || (namesRegisterInB(op) && awaited[cellB[cell]])) {
      return true;
    }
    if (isBranch(op)) {
      return false;
    }
    // STORE would read an awaited R[d] too early; of the others, an older result could come last.
    int unit = unitOf(op);
    return awaited[cellD[cell]] || cyclesLeft[unit] > 0;
  }

  private void start(int cell) {
    int op = cellOp[cell];
    int left = registers[cellA[cell]];
    int right = namesRegisterInB(op) ? registers[cellB[cell]] : cellB[cell];
    if (isBranch(op)) {
      pc = isTaken(op, left, right) ? cellD[cell] : cell + 1;
      return;
    }
    // Noted here and not when the unit is done: only starts are sure to be in program order.
    int fault = faultKind(op, left, right);
    noteFault(fault, cell);
    occupyUnit(cell, left, right);
    pc = cell + 1;
  }

  private static boolean isTaken(int op, int left, int right) {
    switch (op) {
      case BEQ:
        return left == right;
      case BNE:
        return left != right;
      default:
        return left < right;
    }
  }

  private static int faultKind(int op, int left, int right) {
    switch (op) {
      case DIV:
      case REM:
        return right == 0 ? FAULT_DIVIDE : NONE;
      case LOAD:
        return isBelow(left + right, WORDS) ? NONE : FAULT_LOAD;
      case STORE:
        return isBelow(left + right, WORDS) ? NONE : FAULT_STORE;
      default:
        return NONE;
    }
  }

  private void noteFault(int kind, int cell) {
    if (kind == NONE) {
      return;
    }
    int code = kind * CELLS + cell;
    faultCount++;
    lastFault = code;
    if (firstFault == NONE) {
      firstFault = code;
    }
  }

  private void occupyUnit(int cell, int left, int right) {
    int op = cellOp[cell];
    int unit = unitOf(op);
    cyclesLeft[unit] = latencies[unit];
    unitCell[unit] = cell;
    unitLeft[unit] = left;
    unitRight[unit] = right;
    unitStored[unit] = registers[cellD[cell]];
    awaited[cellD[cell]] = op != STORE;
  }

  private void passCycle() {
    for (int unit = 0; unit < UNITS; unit++) {
      if (cyclesLeft[unit] > 0) {
        cyclesLeft[unit]--;
        if (cyclesLeft[unit] == 0) {
          finish(unit);
        }
      }
    }
  }

  private void drain() {
    for (int cycle = 0; cycle < MAX_LATENCY; cycle++) {
      passCycle();
    }
  }

  private void finish(int unit) {
    int cell = unitCell[unit];
    int op = cellOp[cell];
    int left = unitLeft[unit];
    int right = unitRight[unit];
    if (op == STORE) {
      // An address outside the memory is refused there, which leaves memory unchanged.
      setMemory(left + right, unitStored[unit]);
      return;
    }
    registers[cellD[cell]] = result(op, left, right);
    awaited[cellD[cell]] = false;
  }

  private int result(int op, int left, int right) {
    switch (op) {
      case SUB:
        return left - right;
      case SLT:
        return left < right ? 1 : 0;
      case MUL:
        return left * right;
      case DIV:
        return right == 0 ? 0 : left / right;
      case REM:
        return right == 0 ? left : left % right;
      case LOAD:
        return isBelow(left + right, WORDS) ? words[left + right] : 0;
      default:
        return left + right;
    }
  }
}
