/** Promises 1 to 17 together: long mixed runs of calls, each answer compared with PlainCpu's. */
public final class AgainstPlainTest {
  private static final int OBJECTS = 20000;
  private static final int CALLS = 60;
  private static final int[] EDGES = {
    0, 1, -1, 2, 7, 8, 31, 32, 33, -31, -32, 64, 65, Integer.MIN_VALUE, Integer.MAX_VALUE
  };

  // A counting rule of our own, so that every run of the test makes the same calls.
  private static long seed = 20261115L;
  private static boolean near = false;

  public static void main(String[] args) {
    for (int object = 0; object < OBJECTS && !Check.failed(); object++) {
      oneObject(object);
    }
    Check.end();
  }

  private static int below(int bound) {
    seed = seed * 6364136223846793005L + 1442695040888963407L;
    return (int) ((seed >>> 33) % bound);
  }

  private static int anyInt() {
    int choice = below(4);
    if (choice == 0) {
      return EDGES[below(EDGES.length)];
    }
    return choice == 1 ? below(Integer.MAX_VALUE) * 2 + below(2) : below(40) - 4;
  }

  private static int anyLatency() {
    return below(4) == 0 ? anyInt() : below(8) + 1;
  }

  private static int anyValue() {
    return near ? below(24) - 2 : anyInt();
  }

  private static int mostlyBelow(int bound) {
    return below(20) == 0 ? anyInt() : below(bound);
  }

  private static void oneObject(int object) {
    int[] given = {anyLatency(), anyLatency(), anyLatency(), anyLatency()};
    // In every second object the values given are small: most addresses are inside the memory.
    near = object % 2 == 1;
    ScoreboardCpu cpu = new ScoreboardCpu(given[0], given[1], given[2], given[3]);
    PlainCpu plain = new PlainCpu(given);
    // Few registers make many conflicts; many registers make much overlap.
    int registers = 2 + below(7);
    for (int index = 0; index < 8; index++) {
      int value = anyValue();
      cpu.setRegister(index, value);
      plain.setRegister(index, value);
    }
    int start = below(33);
    for (int cell = 0; cell < start; cell++) {
      emit(object, cpu, plain, registers);
    }
    for (int call = 0; call < CALLS && !Check.failed(); call++) {
      oneCall(object, cpu, plain, registers);
      Check.same("object " + object + ", call " + call, plain.state(), State.of(cpu));
    }
  }

  private static void oneCall(int object, ScoreboardCpu cpu, PlainCpu plain, int registers) {
    int where = mostlyBelow(32);
    int value = anyValue();
    String what = "object " + object + ": ";
    switch (below(12)) {
      case 0 -> {
        int unit = where % 8;
        int cycles = anyLatency();
        int due = plain.setLatency(unit, cycles);
        Check.due(what + "setLatency", cpu.setLatency(unit, cycles), due);
      }
      case 1 -> {
        int index = where % 10;
        int due = plain.setRegister(index, value);
        Check.due(what + "setRegister", cpu.setRegister(index, value), due);
      }
      case 2 -> {
        int due = plain.setMemory(where, value);
        Check.due(what + "setMemory", cpu.setMemory(where, value), due);
      }
      case 3, 4 -> Check.due(what + "jump", cpu.jump(where), plain.jump(where));
      case 5, 6 -> emit(object, cpu, plain, registers);
      case 7 -> {
        if (below(8) == 0) {
          cpu.reset();
          plain.reset();
        }
      }
      default -> {
        int count = mostlyBelow(65);
        Check.due(what + "run(" + count + ")", cpu.run(count), plain.run(count));
      }
    }
  }

  private static void emit(int object, ScoreboardCpu cpu, PlainCpu plain, int registers) {
    int op = below(30) == 0 ? below(16) - 1 : 1 + below(12);
    int d = op >= 10 ? mostlyBelow(32) : mostlyBelow(registers);
    int a = mostlyBelow(registers);
    int b = op == 3 || op == 8 || op == 9 ? anyValue() : mostlyBelow(registers);
    String call = "object " + object + ": emit(" + op + ", " + d + ", " + a + ", " + b + ")";
    Check.due(call, cpu.emit(op, d, a, b), plain.emit(op, d, a, b));
  }
}
