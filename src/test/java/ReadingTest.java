/**
 * Promises 3, 5, 7, 9, 11 and 13 to 16: "It changes nothing." (of the faults: "The call changes
 * nothing."). Every reading call, with right and with wrong arguments, in every situation.
 */
public final class ReadingTest {
  private static final int[] FAR = {Integer.MIN_VALUE, Integer.MAX_VALUE};

  public static void main(String[] args) {
    changesNothing("latency", -1, 4, (cpu, unit) -> cpu.latency(unit));
    changesNothing("register", -1, 8, (cpu, index) -> cpu.register(index));
    changesNothing("memory", -1, 32, (cpu, address) -> cpu.memory(address));
    changesNothing("length", cpu -> cpu.length());
    changesNothing("pc", cpu -> cpu.pc());
    changesNothing("stopped", cpu -> cpu.stopped() ? 1 : 0);
    changesNothing("faultCount", cpu -> cpu.faultCount());
    changesNothing("firstFault", cpu -> cpu.firstFault());
    changesNothing("lastFault", cpu -> cpu.lastFault());
    Check.end();
  }

  private interface CallWith {
    int on(ScoreboardCpu cpu, int argument);
  }

  private static void changesNothing(String name, int from, int to, CallWith call) {
    for (int argument = from; argument <= to; argument++) {
      int given = argument;
      changesNothing(name + "(" + given + ")", cpu -> call.on(cpu, given));
    }
    for (int argument : FAR) {
      changesNothing(name + "(" + argument + ")", cpu -> call.on(cpu, argument));
    }
  }

  // The second answer must be the first one again: reading doesn't use anything up.
  private static void changesNothing(String name, Call call) {
    for (int situation = 0; situation < Situations.COUNT; situation++) {
      ScoreboardCpu cpu = Situations.make(situation);
      String what = name + Situations.name(situation);
      int first = call.on(cpu);
      Check.due(what + " again", call.on(cpu), first);
      Check.untouched(what, cpu, situation);
    }
  }
}
