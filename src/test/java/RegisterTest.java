/** Promises 6 and 7: setRegister and register. */
public final class RegisterTest {
  private static final int MIN = Integer.MIN_VALUE;
  private static final int MAX = Integer.MAX_VALUE;
  private static final int[] VALUES = {0, 1, -1, 4242, MIN, MIN + 1, MAX - 1, MAX};
  private static final int[] OUTSIDE = {MIN, -8, -2, -1, 8, 9, 31, 32, MAX};

  public static void main(String[] args) {
    aWrongIndexIsRefused();
    everyIndexTakesAnyInt();
    nothingElseChanges();
    registerAnswersItsOwn();
    aWrongIndexAnswersZero();
    Check.end();
  }

  // "`setRegister(index, value)` answers `REFUSED` and changes nothing if `index` is not in 0..7."
  private static void aWrongIndexIsRefused() {
    for (int index : OUTSIDE) {
      for (int value : VALUES) {
        ScoreboardCpu cpu = State.used();
        String call = "setRegister(" + index + ", " + value + ")";
        Check.due(call, cpu.setRegister(index, value), ScoreboardCpu.REFUSED);
        Check.untouched(call, cpu, Situations.BEFORE_ADD);
      }
    }
    Check.due("setRegister(0, 5)", State.used().setRegister(0, 5), ScoreboardCpu.OK);
    Check.due("setRegister(7, 5)", State.used().setRegister(7, 5), ScoreboardCpu.OK);
  }

  // "Otherwise `R[index]` becomes `value`, which may be any int, and the answer is `OK`."
  private static void everyIndexTakesAnyInt() {
    for (int index = 0; index < 8; index++) {
      for (int value : VALUES) {
        ScoreboardCpu cpu = State.used();
        String call = "setRegister(" + index + ", " + value + ")";
        Check.due(call, cpu.setRegister(index, value), ScoreboardCpu.OK);
        Check.due(call + ", then register(" + index + ")", cpu.register(index), value);
      }
    }
  }

  // "Nothing else changes: the other registers, memory, program, pc, latencies and faults stay."
  private static void nothingElseChanges() {
    for (int situation = 0; situation < Situations.COUNT; situation++) {
      for (int index = 0; index < 8; index++) {
        ScoreboardCpu cpu = Situations.make(situation);
        int[] before = State.of(cpu);
        String call = "setRegister(" + index + ", -9)" + Situations.name(situation);
        cpu.setRegister(index, -9);
        Check.same(call, before, State.of(cpu), index);
        cpu.setRegister(index, before[index]);
        Check.untouched(call + " and back", cpu, situation);
      }
    }
  }

  // "`register(index)` answers `R[index]` if `index` is in 0..7"
  private static void registerAnswersItsOwn() {
    ScoreboardCpu cpu = new ScoreboardCpu(1, 1, 1, 1);
    for (int index = 0; index < 8; index++) {
      cpu.setRegister(index, index * index + 1);
    }
    for (int index = 0; index < 8; index++) {
      Check.due("register(" + index + ")", cpu.register(index), index * index + 1);
    }
  }

  // "... and 0 for every other `index`", also where memory has a word of that number
  private static void aWrongIndexAnswersZero() {
    for (int index : OUTSIDE) {
      ScoreboardCpu cpu = State.used();
      Check.due("register(" + index + ")", cpu.register(index), 0);
      cpu.setRegister(index, 5);
      Check.due("register(" + index + ") after a refusal", cpu.register(index), 0);
    }
    Check.due("register(0)", State.used().register(0), 100);
    Check.due("register(7)", State.used().register(7), 107);
  }
}
