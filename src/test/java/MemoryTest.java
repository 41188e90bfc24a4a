/** Promises 8 and 9: setMemory and memory. */
public final class MemoryTest {
  private static final int MIN = Integer.MIN_VALUE;
  private static final int MAX = Integer.MAX_VALUE;
  private static final int[] VALUES = {0, 1, -1, 4242, MIN, MIN + 1, MAX - 1, MAX};
  private static final int[] OUTSIDE = {MIN, -32, -2, -1, 32, 33, 64, 128, MAX};

  public static void main(String[] args) {
    aWrongAddressIsRefused();
    everyAddressTakesAnyInt();
    nothingElseChanges();
    memoryAnswersItsOwn();
    aWrongAddressAnswersZero();
    memoryRaisesNoFault();
    Check.end();
  }

  // "`setMemory(address, value)` answers `REFUSED` and changes nothing if `address` is not in
  // 0..31."
  private static void aWrongAddressIsRefused() {
    for (int address : OUTSIDE) {
      for (int value : VALUES) {
        ScoreboardCpu cpu = State.used();
        String call = "setMemory(" + address + ", " + value + ")";
        Check.due(call, cpu.setMemory(address, value), ScoreboardCpu.REFUSED);
        Check.untouched(call, cpu, Situations.BEFORE_ADD);
      }
    }
    Check.due("setMemory(0, 5)", State.used().setMemory(0, 5), ScoreboardCpu.OK);
    Check.due("setMemory(31, 5)", State.used().setMemory(31, 5), ScoreboardCpu.OK);
  }

  // "Otherwise `M[address]` becomes `value`, which may be any int, and the answer is `OK`."
  private static void everyAddressTakesAnyInt() {
    for (int address = 0; address < 32; address++) {
      for (int value : VALUES) {
        ScoreboardCpu cpu = State.used();
        String call = "setMemory(" + address + ", " + value + ")";
        Check.due(call, cpu.setMemory(address, value), ScoreboardCpu.OK);
        Check.due(call + ", then memory(" + address + ")", cpu.memory(address), value);
      }
    }
  }

  // "Nothing else changes: the other memory words, registers, program, pc, latencies and faults
  // stay."
  private static void nothingElseChanges() {
    for (int situation = 0; situation < Situations.COUNT; situation++) {
      for (int address = 0; address < 32; address++) {
        ScoreboardCpu cpu = Situations.make(situation);
        int[] before = State.of(cpu);
        String call = "setMemory(" + address + ", -9)" + Situations.name(situation);
        cpu.setMemory(address, -9);
        Check.same(call, before, State.of(cpu), State.WORD_0 + address);
        cpu.setMemory(address, before[State.WORD_0 + address]);
        Check.untouched(call + " and back", cpu, situation);
      }
    }
  }

  // "`memory(address)` answers `M[address]` if `address` is in 0..31"
  private static void memoryAnswersItsOwn() {
    ScoreboardCpu cpu = new ScoreboardCpu(1, 1, 1, 1);
    for (int address = 0; address < 32; address++) {
      cpu.setMemory(address, address * address + 1);
    }
    for (int address = 0; address < 32; address++) {
      Check.due("memory(" + address + ")", cpu.memory(address), address * address + 1);
    }
  }

  // "... and 0 for every other `address`"
  private static void aWrongAddressAnswersZero() {
    for (int address : OUTSIDE) {
      ScoreboardCpu cpu = State.used();
      Check.due("memory(" + address + ")", cpu.memory(address), 0);
      cpu.setMemory(address, 5);
      Check.due("memory(" + address + ") after a refusal", cpu.memory(address), 0);
    }
    Check.due("memory(0)", State.used().memory(0), 1000);
    Check.due("memory(31)", State.used().memory(31), 1031);
  }

  // "It raises no fault and changes nothing.": a machine without faults keeps none, one with
  // faults keeps the same
  private static void memoryRaisesNoFault() {
    for (int address : OUTSIDE) {
      ScoreboardCpu fresh = new ScoreboardCpu(1, 1, 1, 1);
      fresh.memory(address);
      Check.due("faultCount() after memory(" + address + ")", fresh.faultCount(), 0);
      Check.due("firstFault() after memory(" + address + ")", fresh.firstFault(), -1);
      Check.due("lastFault() after memory(" + address + ")", fresh.lastFault(), -1);
      ScoreboardCpu used = State.used();
      used.memory(address);
      Check.due("faultCount() after memory(" + address + ")", used.faultCount(), 2);
      Check.due("firstFault() after memory(" + address + ")", used.firstFault(), 64);
      Check.due("lastFault() after memory(" + address + ")", used.lastFault(), 97);
    }
  }
}
