/** Promise 12, Instructions: the effect of every opcode on registers, memory, faults and pc. */
public final class InstructionTest {
  private static final int MIN = Integer.MIN_VALUE;
  private static final int MAX = Integer.MAX_VALUE;
  private static final int[] VALUES = {
    0, 1, -1, 2, -2, 7, -7, 31, 32, 46340, 46341, 65536, MIN, MIN + 1, MAX, MAX - 1
  };

  public static void main(String[] args) {
    haltIgnoresItsFields();
    everyPairOfValues();
    addWraps();
    subWraps();
    addiWraps();
    sltIsSigned();
    mulWraps();
    divisionBy0();
    divGoesTowards0();
    leastIntByMinusOne();
    remHasTheSignOfTheLeft();
    loadsInsideTheMemory();
    loadsOutsideTheMemory();
    storesInsideTheMemory();
    storesOutsideTheMemory();
    addressesWrap();
    oldValuesAreRead();
    everyFieldNamesItsOwn();
    branchesAtTheirEdges();
    pcGoesOnByOne();
    afterCell31ThePcIs32();
    branchesToLengthAndBeyond();
    branchesChangeThePcAlone();
    Check.end();
  }

  // "not executed, see above; all three fields are ignored": whatever they would name
  private static void haltIgnoresItsFields() {
    int[] fields = {MIN, -1, 0, 1, 7, 8, 31, 32, MAX};
    for (int d : fields) {
      for (int a : fields) {
        for (int b : fields) {
          ScoreboardCpu cpu = State.used();
          cpu.reset();
          cpu.emit(ScoreboardCpu.HALT, d, a, b);
          cpu.emit(ScoreboardCpu.ADD, 1, 1, 1);
          int[] before = State.of(cpu);
          String what = "HALT with " + d + ", " + a + ", " + b;
          Check.due(what + ", run(64)", cpu.run(64), 0);
          Check.due(what + ", stopped()", cpu.stopped(), true);
          Check.same(what, before, State.of(cpu));
        }
      }
    }
  }

  private static void everyPairOfValues() {
    for (int left : VALUES) {
      for (int right : VALUES) {
        result(ScoreboardCpu.ADD, left, right, left + right);
        result(ScoreboardCpu.SUB, left, right, left - right);
        result(ScoreboardCpu.SLT, left, right, left < right ? 1 : 0);
        result(ScoreboardCpu.MUL, left, right, left * right);
        result(ScoreboardCpu.DIV, left, right, right == 0 ? 0 : left / right);
        result(ScoreboardCpu.REM, left, right, right == 0 ? left : left % right);
        immediate(left, right, left + right);
        branch(ScoreboardCpu.BEQ, left, right, left == right);
        branch(ScoreboardCpu.BNE, left, right, left != right);
        branch(ScoreboardCpu.BLT, left, right, left < right);
      }
    }
  }

  private static void result(int op, int left, int right, int want) {
    ScoreboardCpu cpu = State.used();
    cpu.reset();
    cpu.setRegister(2, left);
    cpu.setRegister(7, right);
    cpu.emit(op, 4, 2, 7);
    int[] before = State.of(cpu);
    String what = "opcode " + op + " of " + left + " and " + right;
    Check.due(what + ", run(1)", cpu.run(1), 1);
    Check.due(what + ", register(4)", cpu.register(4), want);
    boolean fault = (op == ScoreboardCpu.DIV || op == ScoreboardCpu.REM) && right == 0;
    faultAndPc(what, cpu, fault ? 32 : ScoreboardCpu.NONE);
    Check.same(what, before, State.of(cpu), 4, State.PC, State.STOPPED,
        State.FAULT_COUNT, State.FIRST_FAULT, State.LAST_FAULT);
  }

  private static void faultAndPc(String what, ScoreboardCpu cpu, int fault) {
    Check.due(what + ", pc()", cpu.pc(), 1);
    Check.due(what + ", faultCount()", cpu.faultCount(), fault == ScoreboardCpu.NONE ? 0 : 1);
    Check.due(what + ", firstFault()", cpu.firstFault(), fault);
    Check.due(what + ", lastFault()", cpu.lastFault(), fault);
  }

  private static void immediate(int left, int value, int want) {
    ScoreboardCpu cpu = State.used();
    cpu.reset();
    cpu.setRegister(2, left);
    cpu.emit(ScoreboardCpu.ADDI, 5, 2, value);
    int[] before = State.of(cpu);
    String what = "ADDI of " + left + " and " + value;
    Check.due(what + ", run(1)", cpu.run(1), 1);
    Check.due(what + ", register(5)", cpu.register(5), want);
    faultAndPc(what, cpu, ScoreboardCpu.NONE);
    Check.same(what, before, State.of(cpu), 5, State.PC, State.STOPPED);
  }

  private static void branch(int op, int left, int right, boolean taken) {
    for (int target : new int[] {0, 1, 2, 9, 31}) {
      ScoreboardCpu cpu = State.used();
      cpu.reset();
      cpu.setRegister(2, left);
      cpu.setRegister(7, right);
      cpu.emit(ScoreboardCpu.HALT, 0, 0, 0);
      cpu.emit(op, target, 2, 7);
      cpu.emit(ScoreboardCpu.ADD, 1, 1, 1);
      cpu.jump(1);
      int[] before = State.of(cpu);
      String what = "opcode " + op + " of " + left + " and " + right + " to " + target;
      Check.due(what + ", run(1)", cpu.run(1), 1);
      Check.due(what + ", pc()", cpu.pc(), taken ? target : 2);
      Check.same(what, before, State.of(cpu), State.PC, State.STOPPED);
    }
  }

  // "All arithmetic is on ints and wraps as in Java": at the greatest and the least int
  private static void addWraps() {
    result(ScoreboardCpu.ADD, MAX - 1, 1, MAX);
    result(ScoreboardCpu.ADD, MAX, 0, MAX);
    result(ScoreboardCpu.ADD, MAX, 1, MIN);
    result(ScoreboardCpu.ADD, MAX, MAX, -2);
    result(ScoreboardCpu.ADD, MIN + 1, -1, MIN);
    result(ScoreboardCpu.ADD, MIN, -1, MAX);
    result(ScoreboardCpu.ADD, MIN, MIN, 0);
  }

  private static void subWraps() {
    result(ScoreboardCpu.SUB, 5, 7, -2);
    result(ScoreboardCpu.SUB, MIN + 1, 1, MIN);
    result(ScoreboardCpu.SUB, MIN, 1, MAX);
    result(ScoreboardCpu.SUB, MAX - 1, -1, MAX);
    result(ScoreboardCpu.SUB, MAX, -1, MIN);
    result(ScoreboardCpu.SUB, 0, MIN, MIN);
    result(ScoreboardCpu.SUB, -1, MIN, MAX);
  }

  // "R[d] = R[a] + b, where b is the value itself": 7 and 0 are values here, not registers
  private static void addiWraps() {
    immediate(1, 7, 8);
    immediate(1, 0, 1);
    immediate(1, -1, 0);
    immediate(MAX - 1, 1, MAX);
    immediate(MAX, 1, MIN);
    immediate(MIN + 1, -1, MIN);
    immediate(MIN, -1, MAX);
    immediate(-1, MAX, MAX - 1);
    immediate(-1, MIN, MAX);
  }

  // "comparisons are signed": less, equal and greater, and where the difference would wrap
  private static void sltIsSigned() {
    result(ScoreboardCpu.SLT, 6, 7, 1);
    result(ScoreboardCpu.SLT, 7, 7, 0);
    result(ScoreboardCpu.SLT, 8, 7, 0);
    result(ScoreboardCpu.SLT, -1, 0, 1);
    result(ScoreboardCpu.SLT, 0, -1, 0);
    result(ScoreboardCpu.SLT, MIN, MAX, 1);
    result(ScoreboardCpu.SLT, MAX, MIN, 0);
    result(ScoreboardCpu.SLT, MIN, MIN + 1, 1);
    result(ScoreboardCpu.SLT, MIN, 1, 1);
    result(ScoreboardCpu.SLT, 1, MIN, 0);
  }

  private static void mulWraps() {
    result(ScoreboardCpu.MUL, 46340, 46340, 2147395600);
    result(ScoreboardCpu.MUL, 46341, 46341, -2147479015);
    result(ScoreboardCpu.MUL, 65536, 32768, MIN);
    result(ScoreboardCpu.MUL, 65536, 65536, 0);
    result(ScoreboardCpu.MUL, 65537, 65536, 65536);
    result(ScoreboardCpu.MUL, MAX, MAX, 1);
    result(ScoreboardCpu.MUL, MIN, -1, MIN);
    result(ScoreboardCpu.MUL, MIN, 2, 0);
    result(ScoreboardCpu.MUL, -3, 7, -21);
  }

  // "if R[b] is 0: fault `FAULT_DIVIDE` and R[d] = 0" of DIV, "and R[d] = R[a]" of REM: at the
  // divisor 0 and on both sides of it
  private static void divisionBy0() {
    for (int left : new int[] {0, 1, -1, 55, -55, MIN, MAX}) {
      result(ScoreboardCpu.DIV, left, 0, 0);
      result(ScoreboardCpu.REM, left, 0, left);
      result(ScoreboardCpu.DIV, left, 1, left);
      result(ScoreboardCpu.REM, left, 1, 0);
      result(ScoreboardCpu.DIV, left, -1, 0 - left);
      result(ScoreboardCpu.REM, left, -1, 0);
    }
  }

  // "R[a] / R[b] as in Java (towards 0 ...)"
  private static void divGoesTowards0() {
    result(ScoreboardCpu.DIV, 7, 2, 3);
    result(ScoreboardCpu.DIV, 7, -2, -3);
    result(ScoreboardCpu.DIV, -7, 2, -3);
    result(ScoreboardCpu.DIV, -7, -2, 3);
    result(ScoreboardCpu.DIV, 6, 7, 0);
    result(ScoreboardCpu.DIV, -6, 7, 0);
    result(ScoreboardCpu.DIV, 0, 7, 0);
    result(ScoreboardCpu.DIV, MAX, MIN, 0);
    result(ScoreboardCpu.DIV, MIN, MAX, -1);
    result(ScoreboardCpu.DIV, MIN, MIN, 1);
  }

  // "the least int divided by -1 is the least int", without a fault; and its neighbours
  private static void leastIntByMinusOne() {
    result(ScoreboardCpu.DIV, MIN, -1, MIN);
    result(ScoreboardCpu.DIV, MIN + 1, -1, MAX);
    result(ScoreboardCpu.DIV, MIN, -2, 1073741824);
    result(ScoreboardCpu.DIV, MIN, 1, MIN);
    result(ScoreboardCpu.REM, MIN, -1, 0);
    result(ScoreboardCpu.REM, MIN + 1, -1, 0);
    result(ScoreboardCpu.REM, MIN, -2, 0);
  }

  // "R[a] % R[b] as in Java"
  private static void remHasTheSignOfTheLeft() {
    result(ScoreboardCpu.REM, 7, 2, 1);
    result(ScoreboardCpu.REM, 7, -2, 1);
    result(ScoreboardCpu.REM, -7, 2, -1);
    result(ScoreboardCpu.REM, -7, -2, -1);
    result(ScoreboardCpu.REM, 6, 7, 6);
    result(ScoreboardCpu.REM, 7, 7, 0);
    result(ScoreboardCpu.REM, 8, 7, 1);
    result(ScoreboardCpu.REM, MIN, MAX, -1);
    result(ScoreboardCpu.REM, MAX, MIN, MAX);
  }

  // "if 0 <= e <= 31: R[d] = M[e]"
  private static void loadsInsideTheMemory() {
    for (int address = 0; address < 32; address++) {
      load(address, 0, address);
      load(0, address, address);
      load(100, address - 100, address);
      load(-100, address + 100, address);
    }
  }

  // "else fault `FAULT_LOAD` and R[d] = 0"
  private static void loadsOutsideTheMemory() {
    for (int address : new int[] {MIN, -33, -32, -2, -1, 32, 33, 63, 64, MAX}) {
      load(address, 0, address);
      load(0, address, address);
    }
    load(31, 1, 32);
    load(32, -1, 31);
    load(0, -1, -1);
    load(-1, 1, 0);
  }

  private static void load(int base, int offset, int address) {
    ScoreboardCpu cpu = State.used();
    cpu.reset();
    cpu.setRegister(2, base);
    cpu.emit(ScoreboardCpu.LOAD, 5, 2, offset);
    int[] before = State.of(cpu);
    boolean inside = address >= 0 && address <= 31;
    String what = "LOAD at " + base + " + " + offset;
    Check.due(what + ", run(1)", cpu.run(1), 1);
    Check.due(what + ", register(5)", cpu.register(5), inside ? 1000 + address : 0);
    faultAndPc(what, cpu, inside ? ScoreboardCpu.NONE : 64);
    Check.same(what, before, State.of(cpu), 5, State.PC, State.STOPPED,
        State.FAULT_COUNT, State.FIRST_FAULT, State.LAST_FAULT);
  }

  // "if 0 <= e <= 31: M[e] = R[d]" and "no register changes in any case"
  private static void storesInsideTheMemory() {
    for (int address = 0; address < 32; address++) {
      store(address, 0, address);
      store(0, address, address);
      store(100, address - 100, address);
      store(-100, address + 100, address);
    }
  }

  // "else fault `FAULT_STORE` and memory is unchanged; no register changes in any case"
  private static void storesOutsideTheMemory() {
    for (int address : new int[] {MIN, -33, -32, -2, -1, 32, 33, 63, 64, MAX}) {
      store(address, 0, address);
      store(0, address, address);
    }
    store(31, 1, 32);
    store(32, -1, 31);
    store(0, -1, -1);
    store(-1, 1, 0);
  }

  private static void store(int base, int offset, int address) {
    ScoreboardCpu cpu = State.used();
    cpu.reset();
    cpu.setRegister(2, base);
    cpu.setRegister(5, 777);
    cpu.emit(ScoreboardCpu.STORE, 5, 2, offset);
    int[] due = State.of(cpu);
    boolean inside = address >= 0 && address <= 31;
    if (inside) {
      due[State.WORD_0 + address] = 777;
    }
    String what = "STORE at " + base + " + " + offset;
    Check.due(what + ", run(1)", cpu.run(1), 1);
    faultAndPc(what, cpu, inside ? ScoreboardCpu.NONE : 96);
    Check.same(what, due, State.of(cpu), State.PC, State.STOPPED,
        State.FAULT_COUNT, State.FIRST_FAULT, State.LAST_FAULT);
  }

  // "e = R[a] + b (wrapping)": over the greatest and the least int, back to 0..31 and just beside
  private static void addressesWrap() {
    for (int address = -1; address <= 32; address++) {
      load(MAX, address - MAX, address);
      load(MIN, address + MIN, address);
      load(address + MIN, MIN, address);
      store(MAX, address - MAX, address);
      store(MIN, address + MIN, address);
      store(address + MIN, MIN, address);
    }
    load(MAX, 1, MIN);
    load(MIN, -1, MAX);
    store(MAX, 1, MIN);
    store(MIN, -1, MAX);
  }

  // "All operands of an instruction are read before anything is changed by it, so when a register
  // is both an operand and the target, its old value is used."
  private static void oldValuesAreRead() {
    int[] both = {0, 24, 0, 15, 0, 144, 1, 0, 1015};
    int[] left = {0, 17, 7, 17, 0, 60, 2, 2, 1017};
    int[] right = {0, 17, -7, 17, 1, 60, 0, 5, 1017};
    for (int op = ScoreboardCpu.ADD; op <= ScoreboardCpu.LOAD; op++) {
      boolean takesAnyB = op == ScoreboardCpu.ADDI || op == ScoreboardCpu.LOAD;
      ownTarget(op, 3, 3, both[op]);
      ownTarget(op, 3, takesAnyB ? 5 : 4, left[op]);
      if (!takesAnyB) {
        ownTarget(op, 4, 3, right[op]);
      }
    }
    ScoreboardCpu cpu = State.used();
    cpu.reset();
    cpu.setRegister(3, 12);
    cpu.emit(ScoreboardCpu.STORE, 3, 3, 3);
    cpu.run(1);
    Check.due("STORE of its own address register", cpu.memory(15), 12);
    Check.due("register(3) after it", cpu.register(3), 12);
  }

  // R[3] is the target and holds 12, R[4] holds 5.
  private static void ownTarget(int op, int a, int b, int want) {
    ScoreboardCpu cpu = State.used();
    cpu.reset();
    cpu.setRegister(3, 12);
    cpu.setRegister(4, 5);
    cpu.emit(op, 3, a, b);
    cpu.run(1);
    Check.due("opcode " + op + " with d 3, a " + a + ", b " + b, cpu.register(3), want);
  }

  // Every register as d, as a and as b of every opcode, the edges 0 and 7 among them.
  private static void everyFieldNamesItsOwn() {
    for (int op = ScoreboardCpu.ADD; op <= ScoreboardCpu.BLT; op++) {
      for (int code = 0; code < 512; code++) {
        int d = code % 8;
        int a = code / 8 % 8;
        int b = code / 64;
        PlainCpu plain = new PlainCpu(1, 1, 1, 1);
        ScoreboardCpu cpu = new ScoreboardCpu(1, 1, 1, 1);
        for (int index = 0; index < 8; index++) {
          plain.setRegister(index, 3 * index + 1);
          cpu.setRegister(index, 3 * index + 1);
          plain.setMemory(3 * index, -index);
          cpu.setMemory(3 * index, -index);
        }
        plain.emit(op, d, a, b);
        cpu.emit(op, d, a, b);
        plain.run(1);
        cpu.run(1);
        String what = "emit(" + op + ", " + d + ", " + a + ", " + b + "), run(1)";
        Check.same(what, plain.state(), State.of(cpu));
      }
    }
  }

  // "R[a] == R[b]", "R[a] != R[b]" and "R[a] < R[b]": equal, one less, one more, and far apart
  private static void branchesAtTheirEdges() {
    branch(ScoreboardCpu.BEQ, 7, 7, true);
    branch(ScoreboardCpu.BEQ, 6, 7, false);
    branch(ScoreboardCpu.BEQ, 8, 7, false);
    branch(ScoreboardCpu.BEQ, MIN, MAX, false);
    branch(ScoreboardCpu.BEQ, MIN, MIN, true);
    branch(ScoreboardCpu.BNE, 7, 7, false);
    branch(ScoreboardCpu.BNE, 6, 7, true);
    branch(ScoreboardCpu.BNE, 8, 7, true);
    branch(ScoreboardCpu.BNE, 0, MIN, true);
    branch(ScoreboardCpu.BNE, MAX, MAX, false);
    branch(ScoreboardCpu.BLT, 7, 7, false);
    branch(ScoreboardCpu.BLT, 6, 7, true);
    branch(ScoreboardCpu.BLT, 8, 7, false);
    branch(ScoreboardCpu.BLT, -1, 0, true);
    branch(ScoreboardCpu.BLT, 0, -1, false);
    branch(ScoreboardCpu.BLT, MIN, MAX, true);
    branch(ScoreboardCpu.BLT, MAX, MIN, false);
  }

  private static boolean isDivision(int op) {
    return op == ScoreboardCpu.DIV || op == ScoreboardCpu.REM;
  }

  private static boolean isMemory(int op) {
    return op == ScoreboardCpu.LOAD || op == ScoreboardCpu.STORE;
  }

  private static ScoreboardCpu standingAt(int cell, int op, boolean fault) {
    ScoreboardCpu cpu = new ScoreboardCpu(2, 3, 4, 5);
    cpu.setRegister(1, fault ? 0 : 1);
    for (int i = 0; i < 32; i++) {
      cpu.emit(op, 2, 0, isMemory(op) ? fault ? 32 : 31 : 1);
    }
    cpu.jump(cell);
    return cpu;
  }

  // "Opcodes 1 to 9 also make pc = pc + 1, with or without a fault."
  private static void pcGoesOnByOne() {
    for (int op = ScoreboardCpu.ADD; op <= ScoreboardCpu.STORE; op++) {
      for (int cell = 0; cell < 32; cell++) {
        ScoreboardCpu good = standingAt(cell, op, false);
        Check.due("run(1) of opcode " + op, good.run(1), 1);
        Check.due("pc() after opcode " + op + " in " + cell, good.pc(), cell + 1);
        Check.due("faultCount()", good.faultCount(), 0);
        if (isDivision(op) || isMemory(op)) {
          ScoreboardCpu faulty = standingAt(cell, op, true);
          Check.due("run(1) of faulty opcode " + op, faulty.run(1), 1);
          Check.due("pc() after faulty opcode " + op + " in " + cell, faulty.pc(), cell + 1);
          Check.due("faultCount()", faulty.faultCount(), 1);
        }
      }
    }
  }

  // "After cell 31 the pc is 32; this holds for a branch not taken in cell 31 as well."
  private static void afterCell31ThePcIs32() {
    for (int op = ScoreboardCpu.ADD; op <= ScoreboardCpu.STORE; op++) {
      for (int cell = 30; cell <= 31; cell++) {
        ScoreboardCpu cpu = standingAt(cell, op, op % 2 == 0);
        Check.due("run(64) of opcode " + op + " from " + cell, cpu.run(64), 32 - cell);
        atTheEnd("opcode " + op, cpu);
      }
    }
    for (int op = ScoreboardCpu.BEQ; op <= ScoreboardCpu.BLT; op++) {
      ScoreboardCpu cpu = branchIn31(op, false, 4);
      Check.due("branch not taken in cell 31", cpu.run(9), 1);
      atTheEnd("branch not taken in cell 31", cpu);
      for (int target : new int[] {0, 4, 30}) {
        ScoreboardCpu taken = branchIn31(op, true, target);
        Check.due("branch taken in cell 31", taken.run(9), 1);
        Check.due("pc() after it", taken.pc(), target);
      }
      ScoreboardCpu itself = branchIn31(op, true, 31);
      Check.due("branch in cell 31 to itself", itself.run(64), 64);
      Check.due("pc() after that", itself.pc(), 31);
    }
  }

  private static void atTheEnd(String what, ScoreboardCpu cpu) {
    Check.due(what + ", pc()", cpu.pc(), 32);
    Check.due(what + ", stopped()", cpu.stopped(), true);
    Check.due(what + ", run(64) once more", cpu.run(64), 0);
    Check.due(what + ", pc() once more", cpu.pc(), 32);
  }

  private static ScoreboardCpu branchIn31(int op, boolean taken, int target) {
    ScoreboardCpu cpu = new ScoreboardCpu(1, 1, 1, 1);
    for (int cell = 0; cell < 31; cell++) {
      cpu.emit(ScoreboardCpu.HALT, 0, 0, 0);
    }
    cpu.emit(op, target, 1, 2);
    boolean equal = taken == (op == ScoreboardCpu.BEQ);
    cpu.setRegister(1, equal ? 1 : 0);
    cpu.setRegister(2, 1);
    cpu.jump(31);
    return cpu;
  }

  // "A branch taken to a cell at or beyond length leaves the pc at that cell, and the machine is
  // stopped there."
  private static void branchesToLengthAndBeyond() {
    for (int length = 1; length <= 32; length++) {
      for (int target = 0; target < 32; target++) {
        ScoreboardCpu cpu = new ScoreboardCpu(1, 1, 1, 1);
        for (int cell = 0; cell < length; cell++) {
          cpu.emit(ScoreboardCpu.BEQ, target, 0, 0);
        }
        String what = "a branch to " + target + " with length " + length;
        Check.due(what + ", run(64)", cpu.run(64), target < length ? 64 : 1);
        Check.due(what + ", pc()", cpu.pc(), target);
        Check.due(what + ", stopped()", cpu.stopped(), target >= length);
        Check.due(what + ", length()", cpu.length(), length);
      }
    }
  }

  // "Branches change nothing but the pc."
  private static void branchesChangeThePcAlone() {
    for (int op = ScoreboardCpu.BEQ; op <= ScoreboardCpu.BLT; op++) {
      for (int code = 0; code < 64; code++) {
        ScoreboardCpu cpu = State.used();
        cpu.setRegister(4, 106);
        cpu.emit(op, 2, code % 8, code / 8);
        cpu.jump(3);
        int[] before = State.of(cpu);
        cpu.run(1);
        String what = "opcode " + op + " of registers " + code % 8 + " and " + code / 8;
        Check.same(what, before, State.of(cpu), State.PC, State.STOPPED);
      }
    }
  }
}
