/** Promise 12: Refusal, Extent, Answer and What stays. */
public final class RunTest {
  private static final int MIN = Integer.MIN_VALUE;
  private static final int MAX = Integer.MAX_VALUE;

  public static void main(String[] args) {
    aCountOutside1To64IsRefused();
    atMost64InACall();
    theCountEndsARun();
    lengthEndsARun();
    haltEndsARun();
    theFirstOfTheThreeEndsARun();
    haltIsNotCountedAndThePcStays();
    branchesAreCounted();
    faultyInstructionsAreCounted();
    aFaultNeverStops();
    repeatedInstructionsAreCountedEachTime();
    theAnswerIsOfThisCallAlone();
    aStoppedMachineAnswers0();
    aStopIsNotRemembered();
    programLengthAndLatenciesStay();
    theRestChangesOnlyAsTheInstructionsSay();
    allEffectsAreComplete();
    noOtherInstructionHasAnEffect();
    splittingMakesNoDifference();
    Check.end();
  }

  /** A program of ADDI instructions that count in R[1], with a HALT in one cell, or in none. */
  private static ScoreboardCpu counting(int length, int halt) {
    ScoreboardCpu cpu = new ScoreboardCpu(3, 1, 1, 1);
    for (int cell = 0; cell < length; cell++) {
      cpu.emit(cell == halt ? ScoreboardCpu.HALT : ScoreboardCpu.ADDI, 1, 1, 1);
    }
    return cpu;
  }

  private static void due(String what, ScoreboardCpu cpu, int counted, int pc, boolean stopped) {
    Check.due(what + ", register(1)", cpu.register(1), counted);
    Check.due(what + ", pc()", cpu.pc(), pc);
    Check.due(what + ", stopped()", cpu.stopped(), stopped);
  }

  // "`run(count)` answers `REFUSED` and changes nothing if `count` is not in 1..64."
  private static void aCountOutside1To64IsRefused() {
    for (int situation = 0; situation < Situations.COUNT; situation++) {
      for (int count : new int[] {MIN, MIN + 1, -64, -1, 0, 65, 66, 100, 128, MAX - 1, MAX}) {
        ScoreboardCpu cpu = Situations.make(situation);
        String call = "run(" + count + ")" + Situations.name(situation);
        Check.due(call, cpu.run(count), ScoreboardCpu.REFUSED);
        Check.untouched(call, cpu, situation);
      }
    }
    Check.due("run(1)", counting(9, -1).run(1), 1);
    Check.due("run(64)", counting(9, -1).run(64), 9);
  }

  // What it is: "`run(count)` executes up to 64 instructions in a call"
  private static void atMost64InACall() {
    ScoreboardCpu cpu = new ScoreboardCpu(8, 8, 8, 8);
    cpu.emit(ScoreboardCpu.BEQ, 0, 0, 0);
    Check.due("run(63) of an endless loop", cpu.run(63), 63);
    Check.due("run(64) of an endless loop", cpu.run(64), 64);
    Check.due("run(65) of an endless loop", cpu.run(65), ScoreboardCpu.REFUSED);
  }

  // "`count` instructions have been executed in this call": every count, in a program that never
  // stops of itself
  private static void theCountEndsARun() {
    for (int latency = 1; latency <= 8; latency++) {
      for (int count = 1; count <= 64; count++) {
        ScoreboardCpu cpu = new ScoreboardCpu(latency, 1, 1, 1);
        cpu.emit(ScoreboardCpu.ADDI, 1, 1, 1);
        cpu.emit(ScoreboardCpu.BEQ, 0, 0, 0);
        String call = "run(" + count + ") of an endless loop";
        Check.due(call, cpu.run(count), count);
        due(call, cpu, (count + 1) / 2, count % 2, false);
        Check.due(call + " again", cpu.run(count), count);
      }
    }
  }

  // "pc >= length": for every length, with a count just too small, just enough and just too large
  private static void lengthEndsARun() {
    for (int length = 0; length <= 32; length++) {
      for (int count = Math.max(1, length - 1); count <= length + 1; count++) {
        ScoreboardCpu cpu = counting(length, -1);
        int executed = Math.min(count, length);
        String call = "run(" + count + ") with length " + length;
        Check.due(call, cpu.run(count), executed);
        due(call, cpu, executed, executed, count >= length);
      }
      ScoreboardCpu cpu = counting(length, -1);
      Check.due("run(64) with length " + length, cpu.run(64), length);
      due("run(64) with length " + length, cpu, length, length, true);
    }
  }

  // "the cell at pc holds `HALT`": in every cell, with a count just too small, just enough and
  // just too large
  private static void haltEndsARun() {
    for (int halt = 0; halt < 32; halt++) {
      for (int count : new int[] {halt - 1, halt, halt + 1, halt + 2, 64}) {
        if (count >= 1) {
          ScoreboardCpu cpu = counting(32, halt);
          int executed = Math.min(count, halt);
          String call = "run(" + count + ") with a HALT in " + halt;
          Check.due(call, cpu.run(count), executed);
          due(call, cpu, executed, executed, count >= halt);
        }
      }
    }
  }

  // "until one of these holds, whichever is first"
  private static void theFirstOfTheThreeEndsARun() {
    for (int halt = 1; halt <= 12; halt++) {
      for (int length = 1; length <= 12; length++) {
        for (int count = 1; count <= 12; count++) {
          ScoreboardCpu cpu = counting(length, halt);
          int end = Math.min(halt, length);
          int executed = Math.min(count, end);
          String call = "run(" + count + "), HALT in " + halt + ", length " + length;
          Check.due(call, cpu.run(count), executed);
          due(call, cpu, executed, executed, executed == end);
        }
      }
    }
  }

  // "A `HALT` is not executed: it is not counted and the pc stays on it."
  private static void haltIsNotCountedAndThePcStays() {
    for (int field : new int[] {MIN, -1, 0, 3, 8, 32, MAX}) {
      ScoreboardCpu cpu = counting(1, -1);
      cpu.emit(ScoreboardCpu.HALT, field, field, field);
      cpu.emit(ScoreboardCpu.ADDI, 1, 1, 10);
      Check.due("run(64) up to HALT", cpu.run(64), 1);
      int[] before = State.of(cpu);
      for (int count : new int[] {1, 2, 64}) {
        Check.due("run(" + count + ") on HALT", cpu.run(count), 0);
        Check.same("run(" + count + ") on HALT", before, State.of(cpu));
      }
      due("on HALT", cpu, 1, 1, true);
      cpu.jump(2);
      Check.due("run(64) behind HALT", cpu.run(64), 1);
      due("behind HALT", cpu, 11, 3, true);
    }
    ScoreboardCpu branch = new ScoreboardCpu(1, 1, 1, 1);
    branch.emit(ScoreboardCpu.BEQ, 2, 0, 0);
    branch.emit(ScoreboardCpu.ADDI, 1, 1, 1);
    branch.emit(ScoreboardCpu.HALT, 0, 0, 0);
    Check.due("run(64) of a branch to HALT", branch.run(64), 1);
    due("a branch to HALT", branch, 0, 2, true);
  }

  // "Branches are executed and counted like the other instructions.": taken and not taken
  private static void branchesAreCounted() {
    int[][] taken = {
      {ScoreboardCpu.BEQ, 0, 0}, {ScoreboardCpu.BNE, 0, 2}, {ScoreboardCpu.BLT, 0, 2}
    };
    int[][] not = {
      {ScoreboardCpu.BEQ, 0, 2}, {ScoreboardCpu.BNE, 0, 0}, {ScoreboardCpu.BLT, 2, 0}
    };
    for (int i = 0; i < 3; i++) {
      ScoreboardCpu cpu = new ScoreboardCpu(1, 1, 1, 1);
      cpu.setRegister(2, 5);
      cpu.emit(not[i][0], 9, not[i][1], not[i][2]);
      cpu.emit(taken[i][0], 3, taken[i][1], taken[i][2]);
      cpu.emit(ScoreboardCpu.ADDI, 1, 1, 1);
      cpu.emit(ScoreboardCpu.ADDI, 1, 1, 10);
      Check.due("run(1) of a branch", cpu.run(1), 1);
      due("a branch not taken", cpu, 0, 1, false);
      Check.due("run(1) of a branch", cpu.run(1), 1);
      due("a branch taken", cpu, 0, 3, false);
      cpu.jump(0);
      Check.due("run(64) with branches", cpu.run(64), 3);
      due("both branches", cpu, 10, 4, true);
    }
  }

  // "An instruction that raises a fault is executed and counted too"
  private static void faultyInstructionsAreCounted() {
    int[] ops = {ScoreboardCpu.DIV, ScoreboardCpu.REM, ScoreboardCpu.LOAD, ScoreboardCpu.STORE};
    for (int op : ops) {
      ScoreboardCpu cpu = new ScoreboardCpu(1, 1, 8, 8);
      cpu.emit(op, 2, 0, op == ScoreboardCpu.DIV || op == ScoreboardCpu.REM ? 3 : -1);
      cpu.emit(ScoreboardCpu.ADDI, 1, 1, 1);
      Check.due("run(1) of faulty opcode " + op, cpu.run(1), 1);
      due("faulty opcode " + op, cpu, 0, 1, false);
      Check.due("faultCount()", cpu.faultCount(), 1);
      cpu.jump(0);
      Check.due("run(64) of faulty opcode " + op, cpu.run(64), 2);
      due("behind faulty opcode " + op, cpu, 1, 2, true);
    }
  }

  // "a fault never stops the machine"
  private static void aFaultNeverStops() {
    ScoreboardCpu cpu = new ScoreboardCpu(1, 1, 8, 3);
    cpu.emit(ScoreboardCpu.DIV, 2, 2, 0);
    cpu.emit(ScoreboardCpu.LOAD, 2, 0, 32);
    cpu.emit(ScoreboardCpu.STORE, 2, 0, -1);
    cpu.emit(ScoreboardCpu.REM, 2, 2, 0);
    cpu.emit(ScoreboardCpu.ADDI, 1, 1, 1);
    cpu.emit(ScoreboardCpu.BEQ, 0, 0, 0);
    Check.due("run(64) with faults all the way", cpu.run(64), 64);
    due("64 with faults", cpu, 10, 4, false);
    Check.due("faultCount()", cpu.faultCount(), 44);
  }

  // "An instruction executed several times in a call is counted each time."
  private static void repeatedInstructionsAreCountedEachTime() {
    for (int rounds = 1; rounds <= 32; rounds++) {
      ScoreboardCpu cpu = new ScoreboardCpu(3, 1, 1, 1);
      cpu.setRegister(2, rounds);
      cpu.emit(ScoreboardCpu.ADDI, 1, 1, 1);
      cpu.emit(ScoreboardCpu.BLT, 0, 1, 2);
      Check.due("run(64) of " + rounds + " rounds", cpu.run(64), 2 * rounds);
      due(rounds + " rounds", cpu, rounds, 2, true);
    }
  }

  // "The answer is how many instructions were executed in this call, 0..count.": all of them, none
  // of an earlier call, and fewer than count where the program ends
  private static void theAnswerIsOfThisCallAlone() {
    for (int count = 1; count <= 64; count++) {
      ScoreboardCpu cpu = counting(32, -1);
      int left = 32;
      for (int call = 0; call < 34; call++) {
        int due = Math.min(count, left);
        Check.due("run(" + count + ") with " + left + " left", cpu.run(count), due);
        left -= due;
      }
    }
  }

  // "If the machine is stopped at the start of the call, the answer is 0 and nothing changes."
  private static void aStoppedMachineAnswers0() {
    for (int situation = 0; situation < Situations.COUNT; situation++) {
      for (int count : new int[] {1, 2, 63, 64}) {
        ScoreboardCpu cpu = Situations.make(situation);
        String call = "run(" + count + ")" + Situations.name(situation);
        int answer = cpu.run(count);
        if (Situations.isStopped(situation)) {
          Check.due(call, answer, 0);
          Check.untouched(call, cpu, situation);
        } else {
          Check.due(call + " executes 1..count", answer >= 1 && answer <= count, true);
        }
      }
    }
  }

  // "A stop is not remembered: a later `run` looks at the pc and the program afresh."
  private static void aStopIsNotRemembered() {
    ScoreboardCpu cpu = new ScoreboardCpu(1, 1, 1, 1);
    Check.due("run(1) of nothing", cpu.run(1), 0);
    cpu.jump(2);
    cpu.emit(ScoreboardCpu.ADDI, 1, 1, 1);
    cpu.emit(ScoreboardCpu.ADDI, 1, 1, 1);
    Check.due("run(1) at length 2", cpu.run(1), 0);
    cpu.emit(ScoreboardCpu.ADDI, 1, 1, 1);
    Check.due("run(9) at 2 with length 3", cpu.run(9), 1);
    cpu.emit(ScoreboardCpu.HALT, 0, 0, 0);
    Check.due("run(9) on the new HALT", cpu.run(9), 0);
    cpu.jump(0);
    Check.due("run(64) from 0", cpu.run(64), 3);
    cpu.emit(ScoreboardCpu.ADDI, 1, 1, 1);
    Check.due("run(64) on HALT", cpu.run(64), 0);
    cpu.jump(4);
    Check.due("run(64) behind HALT", cpu.run(64), 1);
    cpu.reset();
    Check.due("run(64) after reset", cpu.run(64), 0);
    cpu.emit(ScoreboardCpu.ADDI, 1, 1, 1);
    Check.due("run(64) after reset and emit", cpu.run(64), 1);
  }

  // "The program, its length and the latencies never change in `run`."
  private static void programLengthAndLatenciesStay() {
    for (int situation = 0; situation < Situations.COUNT; situation++) {
      ScoreboardCpu cpu = Situations.make(situation);
      int[] before = State.of(cpu);
      for (int call = 0; call < 10; call++) {
        cpu.jump(call * 3);
        cpu.run(64 - call);
      }
      int[] after = State.of(cpu);
      String what = "runs" + Situations.name(situation);
      for (int entry = State.LATENCY_0; entry <= State.LENGTH; entry++) {
        Check.due(what + ", then " + State.name(entry), after[entry], before[entry]);
      }
      Check.sameProgram(what, Inside.program(cpu), Inside.program(Situations.make(situation)));
    }
    for (int program = 0; program < 16; program++) {
      everyCellDoesTheSameAgain(program);
    }
  }

  // Every opcode is there with every constant from -2 to 33. The first reading executes each cell
  // three times: what this changes in the program would show in the second one.
  private static void everyCellDoesTheSameAgain(int program) {
    ScoreboardCpu cpu = new ScoreboardCpu(1 + program % 8, 3, 8, 2);
    for (int cell = 0; cell < 32; cell++) {
      int pair = program * 32 + cell;
      int op = pair % 12 + 1;
      boolean anyB = op == ScoreboardCpu.ADDI || isMemory(op);
      int b = anyB ? pair / 12 % 36 - 2 : pair / 12 % 8;
      cpu.emit(op, pair / 5 % 8, isMemory(op) ? 0 : pair / 7 % 8, b);
    }
    Check.due("length() of program " + program, cpu.length(), 32);
    int[] first = Inside.program(cpu);
    Check.sameProgram("program " + program + " once more", Inside.program(cpu), first);
  }

  private static boolean isMemory(int op) {
    return op == ScoreboardCpu.LOAD || op == ScoreboardCpu.STORE;
  }

  // "Registers, memory words, the pc and the faults change only as the executed instructions say.":
  // step by step beside the plain machine, in a program that uses every opcode
  private static void theRestChangesOnlyAsTheInstructionsSay() {
    for (int start = 1; start <= 12; start++) {
      ScoreboardCpu cpu = new ScoreboardCpu(4, 5, 6, 7);
      PlainCpu plain = new PlainCpu(4, 5, 6, 7);
      for (int index = 0; index < 8; index++) {
        cpu.setRegister(index, 9 * index - 20);
        plain.setRegister(index, 9 * index - 20);
      }
      for (int cell = 0; cell < 32; cell++) {
        int op = (start + cell * 5) % 12 + 1;
        int b = (cell * 3 + start) % 8;
        cpu.emit(op, cell % 8, (cell + start) % 8, b);
        plain.emit(op, cell % 8, (cell + start) % 8, b);
      }
      for (int step = 0; step < 200; step++) {
        int count = step % 5 + 1;
        String call = "run(" + count + ") in step " + step + " of program " + start;
        Check.due(call, cpu.run(count), plain.run(count));
        Check.same(call, plain.state(), State.of(cpu));
      }
    }
  }

  // "When the call answers, the effects of all instructions counted in it are complete", and a
  // value set afterwards is not overrun by a late one
  private static void allEffectsAreComplete() {
    for (int latency = 1; latency <= 8; latency++) {
      for (int op = ScoreboardCpu.ADD; op <= ScoreboardCpu.LOAD; op++) {
        ScoreboardCpu cpu = new ScoreboardCpu(latency, latency, latency, latency);
        cpu.setRegister(1, 13);
        cpu.setRegister(2, 4);
        cpu.setMemory(15, 99);
        cpu.emit(op, 3, 1, 2);
        cpu.emit(ScoreboardCpu.BEQ, 0, 0, 0);
        cpu.run(1);
        int due = new int[] {0, 17, 9, 15, 0, 52, 3, 1, 99}[op];
        Check.due("opcode " + op + ", latency " + latency, cpu.register(3), due);
        cpu.setRegister(3, -5);
        cpu.run(1);
        Check.due("register(3) set afterwards", cpu.register(3), -5);
      }
      lastStoreIsComplete(latency);
    }
  }

  private static void lastStoreIsComplete(int latency) {
    ScoreboardCpu cpu = new ScoreboardCpu(latency, latency, latency, latency);
    cpu.setRegister(3, 77);
    cpu.emit(ScoreboardCpu.STORE, 3, 0, 31);
    cpu.emit(ScoreboardCpu.BEQ, 0, 0, 0);
    cpu.run(1);
    Check.due("STORE, latency " + latency, cpu.memory(31), 77);
    cpu.setMemory(31, -5);
    cpu.run(1);
    Check.due("memory(31) set afterwards", cpu.memory(31), -5);
  }

  // "and no other instruction has had any effect": none before the pc, none behind the last one
  // counted, none that a branch has left out, and none behind a HALT
  private static void noOtherInstructionHasAnEffect() {
    for (int from = 0; from < 32; from++) {
      for (int count = 1; count <= 32; count++) {
        onlyFromAndUpTo(from, count, 1);
        onlyFromAndUpTo(from, count, 8);
      }
    }
    for (int op = ScoreboardCpu.ADD; op <= ScoreboardCpu.BLT; op++) {
      for (int latency = 1; latency <= 8; latency++) {
        notCountedYet(op, latency);
        leftOutOrBehindHalt(op, latency);
      }
    }
  }

  private static void onlyFromAndUpTo(int from, int count, int latency) {
    ScoreboardCpu cpu = new ScoreboardCpu(latency, 1, 1, 1);
    for (int cell = 0; cell < 32; cell++) {
      cpu.emit(ScoreboardCpu.ADDI, cell % 8, cell % 8, 1 << cell);
    }
    cpu.jump(from);
    int executed = cpu.run(count);
    Check.due("run(" + count + ") from " + from, executed, Math.min(count, 32 - from));
    int sum = 0;
    for (int index = 0; index < 8; index++) {
      sum += cpu.register(index);
    }
    int due = (int) (((1L << executed) - 1) << from);
    Check.due("what run(" + count + ") from " + from + " did", sum, due);
  }

  // R[0] and R[5] are 0, so that every instruction that can raise a fault would raise one.
  private static void emitTelling(ScoreboardCpu cpu, int op) {
    int b = isMemory(op) || op == ScoreboardCpu.ADDI ? 40 : op == ScoreboardCpu.BEQ ? 0 : 5;
    int a = op == ScoreboardCpu.BEQ ? 0 : op == ScoreboardCpu.BLT ? 3 : 4;
    cpu.emit(op, 6, isMemory(op) ? 0 : a, b);
    cpu.emit(ScoreboardCpu.STORE, 4, 0, 31);
  }

  private static ScoreboardCpu telling(int latency) {
    ScoreboardCpu cpu = new ScoreboardCpu(latency, latency, latency, latency);
    cpu.setRegister(3, -9);
    cpu.setRegister(4, 9);
    cpu.setRegister(6, 123);
    return cpu;
  }

  private static void notCountedYet(int op, int latency) {
    ScoreboardCpu cpu = telling(latency);
    cpu.emit(ScoreboardCpu.MUL, 1, 4, 4);
    cpu.emit(ScoreboardCpu.ADDI, 2, 4, 1);
    emitTelling(cpu, op);
    int[] due = State.of(cpu);
    due[1] = 81;
    due[2] = 10;
    due[State.PC] = 2;
    String what = "run(2) before opcode " + op + ", latency " + latency;
    Check.due(what, cpu.run(2), 2);
    Check.same(what, due, State.of(cpu));
  }

  private static void leftOutOrBehindHalt(int op, int latency) {
    ScoreboardCpu cpu = telling(latency);
    cpu.emit(ScoreboardCpu.BEQ, 3, 0, 0);
    emitTelling(cpu, op);
    cpu.emit(ScoreboardCpu.HALT, 0, 0, 0);
    emitTelling(cpu, op);
    int[] due = State.of(cpu);
    due[State.PC] = 3;
    due[State.STOPPED] = 1;
    String what = "run(64) around opcode " + op + ", latency " + latency;
    Check.due(what, cpu.run(64), 1);
    Check.same(what, due, State.of(cpu));
  }

  // "Splitting a run into several calls gives the same result as one call executing the same
  // instructions."
  private static void splittingMakesNoDifference() {
    for (int total : new int[] {2, 31, 63, 64}) {
      int[] whole = State.of(mixed(total, total));
      for (int part = 1; part < total; part++) {
        String what = total + " instructions in parts of " + part;
        Check.same(what, whole, State.of(mixed(total, part)));
      }
    }
  }

  private static ScoreboardCpu mixed(int total, int part) {
    ScoreboardCpu cpu = new ScoreboardCpu(2, 5, 8, 3);
    cpu.setRegister(1, 1000);
    cpu.setRegister(2, 3);
    cpu.emit(ScoreboardCpu.DIV, 3, 1, 2);
    cpu.emit(ScoreboardCpu.MUL, 4, 2, 2);
    cpu.emit(ScoreboardCpu.STORE, 3, 5, 0);
    cpu.emit(ScoreboardCpu.LOAD, 6, 5, -1);
    cpu.emit(ScoreboardCpu.REM, 7, 1, 5);
    cpu.emit(ScoreboardCpu.ADDI, 5, 5, 1);
    cpu.emit(ScoreboardCpu.SUB, 1, 1, 6);
    cpu.emit(ScoreboardCpu.BNE, 0, 5, 4);
    cpu.emit(ScoreboardCpu.BEQ, 1, 0, 0);
    int left = total;
    while (left > 0) {
      int asked = Math.min(left, part);
      Check.due("run(" + asked + ")", cpu.run(asked), asked);
      left -= asked;
    }
    return cpu;
  }
}
