/** A call on an object, with its answer. */
interface Call {
  int on(ScoreboardCpu cpu);
}
