import java.lang.reflect.Constructor;
import java.lang.reflect.Field;
import java.lang.reflect.Method;
import java.lang.reflect.Modifier;
import java.util.Arrays;
import java.util.Set;
import java.util.TreeSet;

/** The public face and the constants, and the rules of LANGUAGE.md that reflection can see. */
public final class FaceTest {
  private static final String[] METHODS = {
    "int setLatency(int,int)", "int latency(int)", "int emit(int,int,int,int)", "int length()",
    "int setRegister(int,int)", "int register(int)", "int setMemory(int,int)", "int memory(int)",
    "int jump(int)", "int pc()", "int run(int)", "boolean stopped()", "int faultCount()",
    "int firstFault()", "int lastFault()", "void reset()"
  };
  private static final String[] CONSTANTS = {
    "OK=0", "REFUSED=-1", "FULL=-2", "NONE=-1", "REGISTERS=8", "WORDS=32", "CELLS=32", "UNITS=4",
    "MAX_LATENCY=8", "MAX_RUN=64", "ADDER=0", "MULTIPLIER=1", "DIVIDER=2", "MEMORY_UNIT=3",
    "HALT=0", "ADD=1", "SUB=2", "ADDI=3", "SLT=4", "MUL=5", "DIV=6", "REM=7", "LOAD=8", "STORE=9",
    "BEQ=10", "BNE=11", "BLT=12", "FAULT_DIVIDE=1", "FAULT_LOAD=2", "FAULT_STORE=3"
  };

  public static void main(String[] args) throws IllegalAccessException {
    Class<?> type = ScoreboardCpu.class;
    Check.due("public and final", type.getModifiers(), Modifier.PUBLIC | Modifier.FINAL);
    Check.due("nested classes", type.getDeclaredClasses().length, 0);
    Constructor<?>[] made = type.getDeclaredConstructors();
    Check.due("constructors", made.length, 1);
    Check.due("public constructor", made[0].getModifiers(), Modifier.PUBLIC);
    sameNames("methods", methods(type), METHODS);
    sameNames("constants", constants(type), CONSTANTS);
    fieldsKeepTheRules(type);
    Check.end();
  }

  private static void sameNames(String what, Set<String> got, String[] due) {
    Set<String> want = new TreeSet<>(Arrays.asList(due));
    Check.due(what + " " + got + " against " + want, got.equals(want), true);
  }

  private static Set<String> methods(Class<?> type) {
    Set<String> open = new TreeSet<>();
    Set<String> openNames = new TreeSet<>();
    Set<String> hiddenNames = new TreeSet<>();
    for (Method method : type.getDeclaredMethods()) {
      Check.due(method.getName() + " has few parameters", method.getParameterCount() <= 7, true);
      if (Modifier.isPrivate(method.getModifiers())) {
        hiddenNames.add(method.getName());
        continue;
      }
      Check.due(method.getName() + " is just public", method.getModifiers(), Modifier.PUBLIC);
      openNames.add(method.getName());
      String parameters = Arrays.toString(method.getParameterTypes()).replaceAll("[\\[\\] ]", "");
      open.add(method.getReturnType() + " " + method.getName() + "(" + parameters + ")");
    }
    hiddenNames.retainAll(openNames);
    Check.due("private methods with a public name " + hiddenNames, hiddenNames.size(), 0);
    return open;
  }

  private static Set<String> constants(Class<?> type) throws IllegalAccessException {
    Set<String> found = new TreeSet<>();
    for (Field field : type.getDeclaredFields()) {
      if (!Modifier.isPrivate(field.getModifiers())) {
        int constant = Modifier.PUBLIC | Modifier.STATIC | Modifier.FINAL;
        Check.due(field.getName() + " is a constant", field.getModifiers(), constant);
        Check.due(field.getName() + " is an int", field.getType() == int.class, true);
        found.add(field.getName() + "=" + field.getInt(null));
      }
    }
    return found;
  }

  private static void fieldsKeepTheRules(Class<?> type) {
    int count = 0;
    for (Field field : type.getDeclaredFields()) {
      Class<?> told = field.getType();
      Class<?> of = told.isArray() ? told.getComponentType() : told;
      boolean whole = of.isPrimitive() && of != float.class && of != double.class;
      Check.due(field.getName() + " is of whole numbers", whole, true);
      if (Modifier.isStatic(field.getModifiers())) {
        boolean number = told == int.class || told == long.class;
        boolean constant = Modifier.isFinal(field.getModifiers()) && number;
        Check.due(field.getName() + " is a static constant", constant, true);
      } else {
        count++;
      }
    }
    Check.due("at most forty fields", count <= 40, true);
  }
}
