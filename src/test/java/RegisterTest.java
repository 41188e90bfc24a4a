/** Promises 6 and 7: setRegister and register. */
public final class RegisterTest {
  private static final int[] VALUES = {0, 1, -1, 4242, Integer.MIN_VALUE, Integer.MAX_VALUE};

  public static void main(String[] args) {
    for (int index = 0; index < 8; index++) {
      for (int value : VALUES) {
        accepted(index, value);
      }
    }
    for (int index : new int[] {-1, 8, 9, 31, Integer.MIN_VALUE, Integer.MAX_VALUE}) {
      refused(index);
    }
    eachKeepsItsOwn();
    Check.end();
  }

  private static void accepted(int index, int value) {
    ScoreboardCpu cpu = State.used();
    int[] before = State.of(cpu);
    String call = "setRegister(" + index + ", " + value + ")";
    Check.due(call, cpu.setRegister(index, value), ScoreboardCpu.OK);
    Check.due(call + ", then register(" + index + ")", cpu.register(index), value);
    Check.same(call, before, State.of(cpu), index);
  }

  private static void refused(int index) {
    ScoreboardCpu cpu = State.used();
    int[] before = State.of(cpu);
    String call = "setRegister(" + index + ", 5)";
    Check.due(call, cpu.setRegister(index, 5), ScoreboardCpu.REFUSED);
    Check.due("register(" + index + ")", cpu.register(index), 0);
    Check.same(call, before, State.of(cpu));
  }

  private static void eachKeepsItsOwn() {
    ScoreboardCpu cpu = new ScoreboardCpu(1, 1, 1, 1);
    for (int index = 0; index < 8; index++) {
      cpu.setRegister(index, index * index + 1);
    }
    for (int index = 0; index < 8; index++) {
      Check.due("register(" + index + ")", cpu.register(index), index * index + 1);
      Check.due("register(" + index + ") again", cpu.register(index), index * index + 1);
    }
  }
}
