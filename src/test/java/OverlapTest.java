import java.util.Arrays;

/**
 * What it is: "every call leaves the machine drained: no instruction is left unfinished when a call
 * answers", and "Every answer is the one given by executing the instructions one at a time in
 * program order, as defined below, for every program and every choice of latencies."
 *
 * Every pair and every triple of instructions over two registers, under latencies that let a later
 * one be done first.
 */
public final class OverlapTest {
  private static final int[][] LATENCIES = {
    {1, 1, 1, 1}, {8, 1, 1, 1}, {1, 8, 1, 1}, {1, 1, 8, 1}, {1, 1, 1, 8}, {2, 3, 4, 5}, {8, 8, 8, 8}
  };
  private static final int[] UNIT_OF = {0, 0, 0, 0, 0, 1, 2, 2, 3, 3, 0, 0, 0};
  private static final int[][] SHAPES = shapes();
  private static long seed = 1;

  public static void main(String[] args) {
    pairsUnderAllLatencies();
    triples();
    drainedAfterEveryCount();
    Check.end();
  }

  // Opcodes 1 to 12 over two registers, here 1 and 2, and a constant that may make a LOAD or STORE
  // faulty.
  private static int[][] shapes() {
    int[][] shapes = new int[12 * 8][];
    int free = 0;
    for (int op = ScoreboardCpu.ADD; op <= ScoreboardCpu.BLT; op++) {
      for (int code = 0; code < 8; code++) {
        int d = code % 2 + 1;
        int b = code / 4 + 1;
        shapes[free++] = new int[] {op, d, code / 2 % 2 + 1, takesAnyB(op) ? (b - 1) * 40 : b};
      }
    }
    return shapes;
  }

  private static boolean takesAnyB(int op) {
    return op == ScoreboardCpu.ADDI || op == ScoreboardCpu.LOAD || op == ScoreboardCpu.STORE;
  }

  // A pair uses two units at most: every pair of latencies of these, the others quick or slow.
  private static void pairsUnderAllLatencies() {
    for (int[] first : SHAPES) {
      for (int[] second : SHAPES) {
        for (int code = 0; code < 64 && !Check.failed(); code++) {
          int others = (code + code / 8) % 2 == 0 ? 1 : 8;
          int[] latencies = {others, others, others, others};
          latencies[UNIT_OF[first[0]]] = code / 8 + 1;
          latencies[UNIT_OF[second[0]]] = code % 8 + 1;
          compare(latencies, first, second);
        }
      }
    }
  }

  // Each triple under one of the 4096 choices of latencies, spread over all of them.
  private static void triples() {
    for (int[] first : SHAPES) {
      for (int[] second : SHAPES) {
        // Of the last one every opcode and one choice of registers in two are enough.
        for (int i = 0; i < SHAPES.length && !Check.failed(); i += 2) {
          int code = below4096();
          int[] latencies = {
            code % 8 + 1, code / 8 % 8 + 1, code / 64 % 8 + 1, code / 512 + 1
          };
          compare(latencies, first, second, SHAPES[i]);
        }
      }
    }
  }

  // A counting rule of our own, so that every run of the test makes the same choices.
  private static int below4096() {
    seed = seed * 6364136223846793005L + 1442695040888963407L;
    return (int) (seed >>> 52);
  }

  private static ScoreboardCpu made(int[] latencies) {
    return new ScoreboardCpu(latencies[0], latencies[1], latencies[2], latencies[3]);
  }

  /** The program with two registers of all eight in the place of R[1] and R[2]. */
  private static int[][] named(int one, int two, int[]... program) {
    int[][] named = new int[program.length][];
    for (int cell = 0; cell < program.length; cell++) {
      int[] each = program[cell].clone();
      each[1] = each[0] >= ScoreboardCpu.BEQ ? each[1] : each[1] == 1 ? one : two;
      each[2] = each[2] == 1 ? one : two;
      each[3] = takesAnyB(each[0]) ? each[3] : each[3] == 1 ? one : two;
      named[cell] = each;
    }
    return named;
  }

  private static void compare(int[] latencies, int[]... program) {
    int choice = below4096();
    int one = choice % 8;
    int two = (one + 1 + choice / 8 % 7) % 8;
    compareNamed(latencies, one, two, named(one, two, program));
  }

  private static void compareNamed(int[] latencies, int one, int two, int[][] program) {
    PlainCpu plain = new PlainCpu(latencies);
    ScoreboardCpu cpu = made(latencies);
    plain.setRegister(one, 12);
    cpu.setRegister(one, 12);
    plain.setRegister(two, 5);
    cpu.setRegister(two, 5);
    plain.setMemory(12, 3);
    cpu.setMemory(12, 3);
    for (int[] each : program) {
      plain.emit(each[0], each[1], each[2], each[3]);
      cpu.emit(each[0], each[1], each[2], each[3]);
    }
    int due = plain.run(5);
    int executed = cpu.run(5);
    int[] got = State.of(cpu);
    if (executed != due || !Arrays.equals(got, plain.state())) {
      String what = Arrays.deepToString(program) + " with latencies " + Arrays.toString(latencies);
      Check.due(what + ", run(5)", executed, due);
      Check.same(what, plain.state(), got);
    }
  }

  // A call that ends while units would still be at work: everything can be changed then, and
  // nothing comes in late.
  private static void drainedAfterEveryCount() {
    for (int[] latencies : LATENCIES) {
      for (int count = 1; count <= 4; count++) {
        ScoreboardCpu cpu = made(latencies);
        cpu.setRegister(1, 6);
        cpu.emit(ScoreboardCpu.DIV, 4, 1, 1);
        cpu.emit(ScoreboardCpu.MUL, 3, 1, 1);
        cpu.emit(ScoreboardCpu.STORE, 1, 0, 31);
        cpu.emit(ScoreboardCpu.ADDI, 2, 1, 1);
        cpu.run(count);
        String what = "after run(" + count + ")";
        Check.due("register(4) " + what, cpu.register(4), 1);
        Check.due("register(3) " + what, cpu.register(3), count >= 2 ? 36 : 0);
        Check.due("memory(31) " + what, cpu.memory(31), count >= 3 ? 6 : 0);
        Check.due("register(2) " + what, cpu.register(2), count >= 4 ? 7 : 0);
        nothingComesLate(cpu);
      }
    }
  }

  private static void nothingComesLate(ScoreboardCpu cpu) {
    cpu.reset();
    for (int index = 1; index < 8; index++) {
      cpu.setRegister(index, -index);
    }
    cpu.setMemory(31, 60);
    for (int cell = 0; cell < 12; cell++) {
      cpu.emit(ScoreboardCpu.ADDI, 0, 0, 1);
    }
    int[] before = State.of(cpu);
    cpu.run(64);
    Check.due("register(0)", cpu.register(0), 12);
    Check.same("twelve cycles and more later", before, State.of(cpu), 0, State.PC, State.STOPPED);
  }
}
