/** What ends what was solved, and that a call which throws changes nothing (promises 2 to 17). */
public final class EndingTest {
  public static void main(String[] args) {
    changesEnd();
    changesToTheSameEnd();
    refusedCallsEndNothing();
    asksEndNothing();
    refusedCallsKeepTheBlock();
    Check.end();
  }

  private static TwoWaySeats solved() {
    TwoWaySeats x = Make.seats(Make.row(2, 3), Make.row(10, 20, 5), Make.row(30, 10, 5));
    Check.due("it is solved", true, x.solve());
    Check.due("more than one table", false, x.unique());
    return x;
  }

  private static void ends(String call, TwoWaySeats x, Runnable change) {
    change.run();
    Check.refused(call + " ends seats", Check.STATE, () -> x.seats(0, 0, false));
    Check.refused(call + " ends unique", Check.STATE, () -> x.unique());
    Check.refused(call + " ends number", Check.STATE, () -> x.number(false, 0, false));
    Check.refused(call + " ends blocks", Check.STATE, () -> x.blocks(false, 0));
    Check.due(call + ", solved again", true, x.solve());
  }

  private static void changesEnd() {
    TwoWaySeats a = solved();
    ends("district", a, () -> { a.district(1); a.votes(2, 0, 5); });
    TwoWaySeats b = solved();
    b.district(1);
    Check.refused("district alone ends", Check.STATE, () -> b.seats(0, 0, false));
    TwoWaySeats c = solved();
    ends("party", c, () -> c.party());
    ends("votes", c, () -> c.votes(0, 0, 11));
    ends("weigh", c, () -> c.weigh(true));
    ends("threshold", c, () -> c.threshold(10));
    ends("lot", c, () -> c.lot(0, 2));
  }

  private static void changesToTheSameEnd() {
    TwoWaySeats x = solved();
    ends("the same votes", x, () -> x.votes(0, 0, 10));
    ends("not weighed as before", x, () -> x.weigh(false));
    ends("the same threshold", x, () -> x.threshold(0));
    ends("a lot", x, () -> x.lot(1, 1));
    ends("the same lot", x, () -> x.lot(1, 1));
  }

  private static void refusedCallsEndNothing() {
    TwoWaySeats x = solved();
    String before = all(x);
    Check.refused("district", Check.ARGUMENT, () -> x.district(16));
    Check.refused("votes", Check.INDEX, () -> x.votes(2, 0, 1));
    Check.refused("votes", Check.ARGUMENT, () -> x.votes(0, 0, 501));
    Check.refused("threshold", Check.ARGUMENT, () -> x.threshold(1001));
    Check.refused("lot", Check.INDEX, () -> x.lot(0, 3));
    Check.refused("lot", Check.INDEX, () -> x.lot(4, 0));
    Check.refused("share", Check.INDEX, () -> x.share(3));
    Check.refused("tied", Check.INDEX, () -> x.tied(3));
    Check.refused("seats", Check.INDEX, () -> x.seats(2, 0, false));
    Check.refused("number", Check.INDEX, () -> x.number(true, 3, false));
    Check.refused("blocks", Check.STATE, () -> x.blocks(true, 0));
    Check.refused("propose", Check.INDEX, () -> x.propose(2, 0, 0));
    Check.due("all as before", before, all(x));
    x.district(1);
    x.district(1);
    x.party();
    x.votes(2, 3, 500);
    x.votes(3, 3, 500);
    x.threshold(600);
    Check.due("solved", false, x.solve());
    x.threshold(0);
    x.votes(2, 0, 1);
    x.votes(3, 0, 1);
    x.votes(0, 3, 10);
    x.votes(1, 3, 10);
    Check.due("solved", true, x.solve());
    String full = all(x);
    Check.refused("a fifth district", Check.UNSUPPORTED, () -> x.district(1));
    Check.refused("a fifth party", Check.UNSUPPORTED, () -> x.party());
    Check.due("all as before, four of each", full, all(x));
  }

  private static String all(TwoWaySeats x) {
    StringBuilder text = new StringBuilder();
    text.append(Make.table(x, false)).append(" / ").append(Make.table(x, true));
    for (int d = 0; d < x.count(false); d++) {
      text.append(" ").append(Make.number(x, false, d));
    }
    for (int p = 0; p < x.count(true); p++) {
      text.append(" ").append(Make.number(x, true, p));
    }
    return text.append(" ").append(Make.shares(x)).append(" ").append(Make.ties(x)).toString();
  }

  private static void asksEndNothing() {
    TwoWaySeats x = solved();
    String before = all(x);
    x.count(true);
    x.share(0);
    x.tied(1);
    x.propose(0, 0, 2);
    x.judge();
    x.unique();
    Check.due("all as before, after asking", before, all(x));
    x.solve();
    Check.due("all as before, solved twice", before, all(x));
  }

  private static void refusedCallsKeepTheBlock() {
    TwoWaySeats x = Make.seats(Make.row(3, 4), Make.row(10, 20), Make.row(1, 0));
    Check.due("no table", false, x.solve());
    Check.due("the block", "-b b-", Make.block(x));
    Check.refused("votes", Check.ARGUMENT, () -> x.votes(1, 1, -1));
    Check.refused("threshold", Check.ARGUMENT, () -> x.threshold(-1));
    Check.refused("seats", Check.STATE, () -> x.seats(0, 0, false));
    x.propose(1, 1, 1);
    x.judge();
    x.share(0);
    Check.due("the block still", "-b b-", Make.block(x));
    x.party();
    Check.refused("a party ends it", Check.STATE, () -> x.blocks(false, 1));
    Check.due("no table again", false, x.solve());
    Check.due("the same block", "-b b--", Make.block(x));
  }
}
