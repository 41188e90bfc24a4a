/** Promise 1: the constructor and the start. */
public final class StartTest {
  private static final int MIN = Integer.MIN_VALUE;
  private static final int MAX = Integer.MAX_VALUE;

  public static void main(String[] args) {
    anyFourIntsAreAccepted();
    latenciesGoToTheUnitsInOrder();
    belowOneBecomesOne();
    aboveEightBecomesEight();
    anyOtherValueIsTaken();
    eachIsClampedOnItsOwn();
    registersAndWordsAreZero();
    theProgramIsEmpty();
    thePcIsZeroAndTheMachineStopped();
    thereIsNoFault();
    objectsShareNothing();
    Check.end();
  }

  // "`ScoreboardCpu(adder, multiplier, divider, memoryUnit)` accepts any four ints."
  private static void anyFourIntsAreAccepted() {
    int[] given = {MIN, MIN + 1, -1, 0, 1, 8, 9, MAX - 1, MAX};
    int[] due = {1, 1, 1, 1, 1, 8, 8, 8, 8};
    for (int code = 0; code < 6561; code++) {
      int[] at = {code % 9, code / 9 % 9, code / 81 % 9, code / 729};
      ScoreboardCpu cpu = new ScoreboardCpu(given[at[0]], given[at[1]], given[at[2]], given[at[3]]);
      for (int unit = 0; unit < 4; unit++) {
        Check.due("latency(" + unit + "), objects " + code, cpu.latency(unit), due[at[unit]]);
      }
      Check.due("run(1)", cpu.run(1), 0);
    }
  }

  // "They are the latencies of units 0, 1, 2, 3 in this order"
  private static void latenciesGoToTheUnitsInOrder() {
    ScoreboardCpu cpu = new ScoreboardCpu(7, 2, 5, 3);
    Check.due("latency(ADDER)", cpu.latency(ScoreboardCpu.ADDER), 7);
    Check.due("latency(MULTIPLIER)", cpu.latency(ScoreboardCpu.MULTIPLIER), 2);
    Check.due("latency(DIVIDER)", cpu.latency(ScoreboardCpu.DIVIDER), 5);
    Check.due("latency(MEMORY_UNIT)", cpu.latency(ScoreboardCpu.MEMORY_UNIT), 3);
    for (int unit = 0; unit < 4; unit++) {
      Check.due("latency(" + unit + ")", cpu.latency(unit), new int[] {7, 2, 5, 3}[unit]);
    }
  }

  // "a value below 1 becomes 1"
  private static void belowOneBecomesOne() {
    for (int unit = 0; unit < 4; unit++) {
      for (int value : new int[] {MIN, MIN + 1, -8, -2, -1, 0, 1}) {
        Check.due("too small a latency, " + value, made(unit, value).latency(unit), 1);
      }
      Check.due("latency made with 2", made(unit, 2).latency(unit), 2);
    }
  }

  // "a value above 8 becomes 8"
  private static void aboveEightBecomesEight() {
    for (int unit = 0; unit < 4; unit++) {
      Check.due("latency made with 7", made(unit, 7).latency(unit), 7);
      for (int value : new int[] {8, 9, 10, 16, 256, MAX - 1, MAX}) {
        Check.due("too large a latency, " + value, made(unit, value).latency(unit), 8);
      }
    }
  }

  // "any other value is taken as it is"
  private static void anyOtherValueIsTaken() {
    for (int unit = 0; unit < 4; unit++) {
      for (int value = 1; value <= 8; value++) {
        Check.due("latency made with " + value, made(unit, value).latency(unit), value);
      }
    }
  }

  // "each clamped on its own into 1..8"
  private static void eachIsClampedOnItsOwn() {
    for (int unit = 0; unit < 4; unit++) {
      for (int value : new int[] {MIN, 0, 1, 8, 9, MAX}) {
        ScoreboardCpu cpu = made(unit, value);
        for (int other = 0; other < 4; other++) {
          if (other != unit) {
            Check.due("latency beside one made with " + value, cpu.latency(other), 3 + other);
          }
        }
      }
    }
  }

  private static ScoreboardCpu made(int unit, int value) {
    int[] given = {3, 4, 5, 6};
    given[unit] = value;
    return new ScoreboardCpu(given[0], given[1], given[2], given[3]);
  }

  // "all registers are 0 and all memory words are 0"
  private static void registersAndWordsAreZero() {
    ScoreboardCpu cpu = new ScoreboardCpu(3, 3, 3, 3);
    for (int index = 0; index < 8; index++) {
      Check.due("fresh register(" + index + ")", cpu.register(index), 0);
    }
    for (int address = 0; address < 32; address++) {
      Check.due("fresh memory(" + address + ")", cpu.memory(address), 0);
    }
  }

  // "the program is empty (length 0)"
  private static void theProgramIsEmpty() {
    ScoreboardCpu cpu = new ScoreboardCpu(3, 3, 3, 3);
    Check.due("fresh length()", cpu.length(), 0);
    for (int cell = 0; cell < 32; cell++) {
      cpu.jump(cell);
      Check.due("stopped() at " + cell + " of no program", cpu.stopped(), true);
      Check.due("run(64) at " + cell + " of no program", cpu.run(64), 0);
    }
    Check.due("first emit", cpu.emit(ScoreboardCpu.ADD, 0, 0, 0), 0);
  }

  // "the pc is 0, so the machine is stopped, because pc >= length"
  private static void thePcIsZeroAndTheMachineStopped() {
    ScoreboardCpu cpu = new ScoreboardCpu(3, 3, 3, 3);
    Check.due("fresh pc()", cpu.pc(), 0);
    Check.due("fresh stopped()", cpu.stopped(), true);
    Check.due("fresh run(64)", cpu.run(64), 0);
    cpu.emit(ScoreboardCpu.ADD, 0, 0, 0);
    Check.due("pc() before the first instruction", cpu.pc(), 0);
    Check.due("stopped() before the first instruction", cpu.stopped(), false);
  }

  // "the fault count is 0, the first fault is none and the last fault is none"
  private static void thereIsNoFault() {
    ScoreboardCpu cpu = new ScoreboardCpu(3, 3, 3, 3);
    Check.due("fresh faultCount()", cpu.faultCount(), 0);
    Check.due("fresh firstFault()", cpu.firstFault(), ScoreboardCpu.NONE);
    Check.due("fresh lastFault()", cpu.lastFault(), ScoreboardCpu.NONE);
  }

  private static void objectsShareNothing() {
    ScoreboardCpu other = Situations.make(Situations.FRESH);
    for (int situation = 0; situation < Situations.COUNT; situation++) {
      Situations.make(situation);
    }
    Check.untouched("work on other objects", other, Situations.FRESH);
  }
}
