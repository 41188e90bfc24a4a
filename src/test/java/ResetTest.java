/** Promise 17: reset. */
public final class ResetTest {
  public static void main(String[] args) {
    programPcAndFaultsGo();
    registersMemoryAndLatenciesStay();
    everyStateAllowsIt();
    afterwardsTheMachineIsStopped();
    theNextInstructionGoesIntoCell0();
    aRefusedEmitTakesNoCell();
    nothingOfTheOldProgramIsLeft();
    newInstructionsTakeThePlaceOfOldOnes();
    faultsAreToldAfresh();
    aSecondResetChangesNothing();
    Check.end();
  }

  // "`reset()` empties the program (length 0), makes the pc 0, the fault count 0, and the first
  // and last fault none."
  private static void programPcAndFaultsGo() {
    for (int situation = 0; situation < Situations.COUNT; situation++) {
      ScoreboardCpu cpu = Situations.make(situation);
      cpu.reset();
      String after = " after reset()" + Situations.name(situation);
      Check.due("length()" + after, cpu.length(), 0);
      Check.due("pc()" + after, cpu.pc(), 0);
      Check.due("faultCount()" + after, cpu.faultCount(), 0);
      Check.due("firstFault()" + after, cpu.firstFault(), ScoreboardCpu.NONE);
      Check.due("lastFault()" + after, cpu.lastFault(), ScoreboardCpu.NONE);
    }
  }

  // "Registers, memory and latencies stay."
  private static void registersMemoryAndLatenciesStay() {
    for (int situation = 0; situation < Situations.COUNT; situation++) {
      ScoreboardCpu cpu = Situations.make(situation);
      int[] before = State.of(cpu);
      cpu.reset();
      Check.same("reset()" + Situations.name(situation), before, State.of(cpu), State.LENGTH,
          State.PC, State.STOPPED, State.FAULT_COUNT, State.FIRST_FAULT, State.LAST_FAULT);
    }
  }

  // "It is allowed in every state": no later answer tells what the state was, once registers,
  // memory and latencies are made alike
  private static void everyStateAllowsIt() {
    int[] due = Inside.of(new ScoreboardCpu(3, 3, 3, 3));
    for (int situation = 0; situation < Situations.COUNT; situation++) {
      ScoreboardCpu cpu = Situations.make(situation);
      cpu.reset();
      for (int index = 0; index < 8; index++) {
        cpu.setRegister(index, 0);
      }
      for (int address = 0; address < 32; address++) {
        cpu.setMemory(address, 0);
      }
      for (int unit = 0; unit < 4; unit++) {
        cpu.setLatency(unit, 3);
      }
      Check.sameInside("reset()" + Situations.name(situation), Inside.of(cpu), due);
    }
  }

  // "afterwards the machine is stopped"
  private static void afterwardsTheMachineIsStopped() {
    for (int situation = 0; situation < Situations.COUNT; situation++) {
      ScoreboardCpu cpu = Situations.make(situation);
      cpu.reset();
      Check.due("stopped() after reset()" + Situations.name(situation), cpu.stopped(), true);
      Check.due("run(64) after reset()" + Situations.name(situation), cpu.run(64), 0);
    }
  }

  // "the next instruction accepted by `emit` goes into cell 0"
  private static void theNextInstructionGoesIntoCell0() {
    for (int situation = 0; situation < Situations.COUNT; situation++) {
      ScoreboardCpu cpu = Situations.make(situation);
      cpu.reset();
      String after = " after reset()" + Situations.name(situation);
      Check.due("emit" + after, cpu.emit(ScoreboardCpu.ADDI, 1, 0, 5), 0);
      Check.due("stopped() on it" + after, cpu.stopped(), false);
      Check.due("second emit" + after, cpu.emit(ScoreboardCpu.ADDI, 2, 0, 5), 1);
      cpu.setRegister(0, 37);
      Check.due("run(64)" + after, cpu.run(64), 2);
      Check.due("register(1)" + after, cpu.register(1), 42);
    }
  }

  // "accepted": refused ones before it take no cell
  private static void aRefusedEmitTakesNoCell() {
    ScoreboardCpu cpu = Situations.make(Situations.FULL);
    Check.due("emit when full", cpu.emit(ScoreboardCpu.ADD, 1, 2, 3), ScoreboardCpu.FULL);
    cpu.reset();
    Check.due("refused emit", cpu.emit(1, 8, 0, 0), ScoreboardCpu.REFUSED);
    Check.due("refused opcode", cpu.emit(13, 0, 0, 0), ScoreboardCpu.REFUSED);
    Check.due("accepted emit", cpu.emit(ScoreboardCpu.DIV, 1, 2, 3), 0);
    for (int cell = 1; cell < 32; cell++) {
      Check.due("emit into cell " + cell, cpu.emit(ScoreboardCpu.ADD, 1, 2, 3), cell);
    }
    Check.due("emit when full again", cpu.emit(ScoreboardCpu.ADD, 1, 2, 3), ScoreboardCpu.FULL);
  }

  private static void nothingOfTheOldProgramIsLeft() {
    ScoreboardCpu cpu = Situations.make(Situations.FULL);
    cpu.reset();
    cpu.emit(ScoreboardCpu.ADD, 0, 0, 0);
    for (int cell = 1; cell < 32; cell++) {
      cpu.jump(cell);
      Check.due("stopped() at old cell " + cell, cpu.stopped(), true);
      Check.due("run(64) at old cell " + cell, cpu.run(64), 0);
    }
    cpu.jump(0);
    Check.due("run(64) of the new program", cpu.run(64), 1);
  }

  // Whatever a cell held before, it holds what is put into it now, with every one of the fields.
  private static void newInstructionsTakeThePlaceOfOldOnes() {
    for (int before = 0; before <= 12; before++) {
      for (int after = 0; after <= 12; after++) {
        ScoreboardCpu cpu = new ScoreboardCpu(1, 2, 3, 4);
        emitEight(cpu, before, 0);
        cpu.reset();
        emitEight(cpu, after, 7);
        ScoreboardCpu fresh = new ScoreboardCpu(1, 2, 3, 4);
        emitEight(fresh, after, 7);
        String what = "opcode " + after + " where " + before + " was";
        Check.sameProgram(what, Inside.program(cpu), Inside.program(fresh));
      }
    }
  }

  // The eight ways of setting the fields to 0 or 7; flip turns every field into the other one.
  private static void emitEight(ScoreboardCpu cpu, int op, int flip) {
    for (int code = 0; code < 8; code++) {
      cpu.emit(op, (code & 1) * 7 ^ flip, (code >> 1 & 1) * 7 ^ flip, (code >> 2) * 7 ^ flip);
    }
  }

  // Promises 14 to 16: "since the object was made or last reset"
  private static void faultsAreToldAfresh() {
    ScoreboardCpu cpu = State.used();
    Check.due("faultCount() before", cpu.faultCount(), 2);
    cpu.reset();
    cpu.emit(ScoreboardCpu.ADD, 1, 1, 1);
    cpu.emit(ScoreboardCpu.DIV, 1, 2, 3);
    cpu.setRegister(3, 0);
    Check.due("run(1) without a fault", cpu.run(1), 1);
    Check.due("firstFault() still none", cpu.firstFault(), ScoreboardCpu.NONE);
    Check.due("run(64)", cpu.run(64), 1);
    Check.due("firstFault()", cpu.firstFault(), 33);
    Check.due("lastFault()", cpu.lastFault(), 33);
    Check.due("faultCount()", cpu.faultCount(), 1);
  }

  private static void aSecondResetChangesNothing() {
    ScoreboardCpu once = Situations.make(Situations.AFTER_RESET);
    once.reset();
    Check.untouched("second reset()", once, Situations.AFTER_RESET);
    ScoreboardCpu fresh = Situations.make(Situations.FRESH);
    fresh.reset();
    Check.untouched("reset() of a fresh object", fresh, Situations.FRESH);
  }
}
