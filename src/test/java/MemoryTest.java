/** Promises 8 and 9: setMemory and memory. */
public final class MemoryTest {
  private static final int[] VALUES = {0, 1, -1, 4242, Integer.MIN_VALUE, Integer.MAX_VALUE};

  public static void main(String[] args) {
    for (int address = 0; address < 32; address++) {
      for (int value : VALUES) {
        accepted(address, value);
      }
    }
    for (int address : new int[] {-1, 32, 33, 64, Integer.MIN_VALUE, Integer.MAX_VALUE}) {
      refused(address);
    }
    eachKeepsItsOwn();
    Check.end();
  }

  private static void accepted(int address, int value) {
    ScoreboardCpu cpu = State.used();
    int[] before = State.of(cpu);
    String call = "setMemory(" + address + ", " + value + ")";
    Check.due(call, cpu.setMemory(address, value), ScoreboardCpu.OK);
    Check.due(call + ", then memory(" + address + ")", cpu.memory(address), value);
    Check.same(call, before, State.of(cpu), State.WORD_0 + address);
  }

  // The state tells the faults too, so this also shows that memory raises none.
  private static void refused(int address) {
    ScoreboardCpu cpu = State.used();
    int[] before = State.of(cpu);
    String call = "setMemory(" + address + ", 5)";
    Check.due(call, cpu.setMemory(address, 5), ScoreboardCpu.REFUSED);
    Check.due("memory(" + address + ")", cpu.memory(address), 0);
    Check.same(call, before, State.of(cpu));
  }

  private static void eachKeepsItsOwn() {
    ScoreboardCpu cpu = new ScoreboardCpu(1, 1, 1, 1);
    for (int address = 0; address < 32; address++) {
      cpu.setMemory(address, address * address + 1);
    }
    for (int address = 0; address < 32; address++) {
      Check.due("memory(" + address + ")", cpu.memory(address), address * address + 1);
      Check.due("memory(" + address + ") again", cpu.memory(address), address * address + 1);
    }
    Check.due("faultCount()", cpu.faultCount(), 0);
  }
}
