/** Promise 12, Instructions: the effect of every opcode on registers, memory and pc. */
public final class InstructionTest {
  private static final int MIN = Integer.MIN_VALUE;
  private static final int MAX = Integer.MAX_VALUE;
  private static final int[] VALUES = {0, 1, -1, 2, -2, 7, -7, 31, 32, 46341, 65536, MIN, MIN + 1, MAX, MAX - 1};

  public static void main(String[] args) {
    for (int left : VALUES) {
      for (int right : VALUES) {
        threeRegisters(left, right);
        addImmediate(left, right);
        branches(left, right);
      }
    }
    divisionTellsItsSigns();
    targetsMayBeOperands();
    loads();
    stores();
    branchesFromCell31();
    Check.end();
  }

  private static void threeRegisters(int left, int right) {
    result(ScoreboardCpu.ADD, left, right, left + right);
    result(ScoreboardCpu.SUB, left, right, left - right);
    result(ScoreboardCpu.SLT, left, right, left < right ? 1 : 0);
    result(ScoreboardCpu.MUL, left, right, left * right);
    result(ScoreboardCpu.DIV, left, right, right == 0 ? 0 : left / right);
    result(ScoreboardCpu.REM, left, right, right == 0 ? left : left % right);
  }

  private static void result(int op, int left, int right, int want) {
    ScoreboardCpu cpu = State.used();
    cpu.reset();
    cpu.setRegister(2, left);
    cpu.setRegister(7, right);
    cpu.emit(op, 4, 2, 7);
    int[] before = State.of(cpu);
    String what = "opcode " + op + " of " + left + " and " + right;
    Check.due(what + ", run(1)", cpu.run(1), 1);
    Check.due(what + ", pc()", cpu.pc(), 1);
    Check.due(what + ", register(4)", cpu.register(4), want);
    boolean fault = (op == ScoreboardCpu.DIV || op == ScoreboardCpu.REM) && right == 0;
    Check.due(what + ", faultCount()", cpu.faultCount(), fault ? 1 : 0);
    Check.same(what, before, State.of(cpu), 4, State.PC, State.STOPPED,
        State.FAULT_COUNT, State.FIRST_FAULT, State.LAST_FAULT);
  }

  private static void addImmediate(int left, int value) {
    ScoreboardCpu cpu = State.used();
    cpu.reset();
    cpu.setRegister(2, left);
    cpu.emit(ScoreboardCpu.ADDI, 5, 2, value);
    int[] before = State.of(cpu);
    String what = "ADDI of " + left + " and " + value;
    Check.due(what + ", run(1)", cpu.run(1), 1);
    Check.due(what + ", pc()", cpu.pc(), 1);
    Check.due(what + ", register(5)", cpu.register(5), left + value);
    Check.same(what, before, State.of(cpu), 5, State.PC, State.STOPPED);
  }

  private static void branches(int left, int right) {
    branch(ScoreboardCpu.BEQ, left, right, left == right);
    branch(ScoreboardCpu.BNE, left, right, left != right);
    branch(ScoreboardCpu.BLT, left, right, left < right);
  }

  private static void branch(int op, int left, int right, boolean taken) {
    for (int target : new int[] {0, 1, 2, 9, 31}) {
      ScoreboardCpu cpu = State.used();
      cpu.reset();
      cpu.setRegister(2, left);
      cpu.setRegister(7, right);
      cpu.emit(ScoreboardCpu.HALT, 0, 0, 0);
      cpu.emit(op, target, 2, 7);
      cpu.emit(ScoreboardCpu.ADD, 1, 1, 1);
      cpu.jump(1);
      int[] before = State.of(cpu);
      String what = "opcode " + op + " of " + left + " and " + right + " to " + target;
      Check.due(what + ", run(1)", cpu.run(1), 1);
      Check.due(what + ", pc()", cpu.pc(), taken ? target : 2);
      Check.same(what, before, State.of(cpu), State.PC, State.STOPPED);
    }
  }

  private static void divisionTellsItsSigns() {
    result(ScoreboardCpu.DIV, 7, -2, -3);
    result(ScoreboardCpu.DIV, -7, 2, -3);
    result(ScoreboardCpu.DIV, -7, -2, 3);
    result(ScoreboardCpu.REM, 7, -2, 1);
    result(ScoreboardCpu.REM, -7, 2, -1);
    result(ScoreboardCpu.DIV, MIN, -1, MIN);
    result(ScoreboardCpu.REM, MIN, -1, 0);
    result(ScoreboardCpu.REM, 55, 0, 55);
    result(ScoreboardCpu.DIV, 55, 0, 0);
  }

  private static void targetsMayBeOperands() {
    ownTarget(ScoreboardCpu.ADD, 12, 24);
    ownTarget(ScoreboardCpu.SUB, 12, 0);
    ownTarget(ScoreboardCpu.SLT, 12, 0);
    ownTarget(ScoreboardCpu.MUL, 12, 144);
    ownTarget(ScoreboardCpu.DIV, 12, 1);
    ownTarget(ScoreboardCpu.DIV, 0, 0);
    ownTarget(ScoreboardCpu.REM, 12, 0);
    ownTarget(ScoreboardCpu.ADDI, 12, 15);
    ownTarget(ScoreboardCpu.LOAD, 12, 1015);
    ScoreboardCpu cpu = State.used();
    cpu.reset();
    cpu.setRegister(3, 12);
    cpu.emit(ScoreboardCpu.STORE, 3, 3, 3);
    cpu.run(1);
    Check.due("STORE of its own address register", cpu.memory(15), 12);
    Check.due("register(3) after it", cpu.register(3), 12);
  }

  private static void ownTarget(int op, int value, int want) {
    ScoreboardCpu cpu = State.used();
    cpu.reset();
    cpu.setRegister(3, value);
    cpu.emit(op, 3, 3, 3);
    cpu.run(1);
    Check.due("opcode " + op + " with d, a and b 3 and R[3] " + value, cpu.register(3), want);
  }

  private static void loads() {
    for (int address = 0; address < 32; address++) {
      load(address, 0, address);
      load(0, address, address);
      load(100, address - 100, address);
      load(MAX, address - MAX, address);
      load(MIN, address + MIN, address);
    }
    for (int address : new int[] {-1, -32, 32, 33, MIN, MAX}) {
      load(address, 0, address);
      load(0, address, address);
    }
    load(MAX, 1, MIN);
    load(MIN, -1, MAX);
    load(31, 1, 32);
    load(0, -1, -1);
  }

  private static void load(int base, int offset, int address) {
    ScoreboardCpu cpu = State.used();
    cpu.reset();
    cpu.setRegister(2, base);
    cpu.emit(ScoreboardCpu.LOAD, 5, 2, offset);
    int[] before = State.of(cpu);
    boolean inside = address >= 0 && address <= 31;
    String what = "LOAD at " + base + " + " + offset;
    int word = cpu.memory(address);
    Check.due(what + ", run(1)", cpu.run(1), 1);
    Check.due(what + ", register(5)", cpu.register(5), inside ? word : 0);
    Check.due(what + ", faultCount()", cpu.faultCount(), inside ? 0 : 1);
    Check.due(what + ", lastFault()", cpu.lastFault(), inside ? -1 : 64);
    Check.due(what + ", pc()", cpu.pc(), 1);
    Check.same(what, before, State.of(cpu), 5, State.PC, State.STOPPED,
        State.FAULT_COUNT, State.FIRST_FAULT, State.LAST_FAULT);
  }

  private static void stores() {
    for (int address = 0; address < 32; address++) {
      store(address, 0, address);
      store(0, address, address);
      store(100, address - 100, address);
      store(MAX, address - MAX, address);
      store(MIN, address + MIN, address);
    }
    for (int address : new int[] {-1, -32, 32, 33, MIN, MAX}) {
      store(address, 0, address);
      store(0, address, address);
    }
    store(MAX, 1, MIN);
    store(MIN, -1, MAX);
    store(31, 1, 32);
    store(0, -1, -1);
  }

  private static void store(int base, int offset, int address) {
    ScoreboardCpu cpu = State.used();
    cpu.reset();
    cpu.setRegister(2, base);
    cpu.setRegister(5, 777);
    cpu.emit(ScoreboardCpu.STORE, 5, 2, offset);
    int[] before = State.of(cpu);
    boolean inside = address >= 0 && address <= 31;
    if (inside) {
      before[State.WORD_0 + address] = 777;
    }
    String what = "STORE at " + base + " + " + offset;
    Check.due(what + ", run(1)", cpu.run(1), 1);
    Check.due(what + ", faultCount()", cpu.faultCount(), inside ? 0 : 1);
    Check.due(what + ", lastFault()", cpu.lastFault(), inside ? -1 : 96);
    Check.due(what + ", pc()", cpu.pc(), 1);
    Check.same(what, before, State.of(cpu), State.PC, State.STOPPED,
        State.FAULT_COUNT, State.FIRST_FAULT, State.LAST_FAULT);
  }

  private static void branchesFromCell31() {
    for (int op = ScoreboardCpu.BEQ; op <= ScoreboardCpu.BLT; op++) {
      ScoreboardCpu cpu = new ScoreboardCpu(1, 1, 1, 1);
      for (int cell = 0; cell < 31; cell++) {
        cpu.emit(ScoreboardCpu.HALT, 0, 0, 0);
      }
      cpu.emit(op, 4, 1, 2);
      cpu.setRegister(1, op == ScoreboardCpu.BEQ ? 1 : 0);
      cpu.jump(31);
      Check.due("branch not taken in cell 31", cpu.run(9), 1);
      Check.due("pc() after it", cpu.pc(), 32);
      Check.due("stopped() after it", cpu.stopped(), true);
      Check.due("run(9) after it", cpu.run(9), 0);
      cpu.setRegister(1, 0);
      cpu.setRegister(2, op == ScoreboardCpu.BEQ ? 0 : 1);
      cpu.jump(31);
      Check.due("branch taken in cell 31", cpu.run(9), 1);
      Check.due("pc() after that", cpu.pc(), 4);
    }
  }
}
