/** Promises 16 and 17: propose and judge. */
public final class JudgingTest {
  public static void main(String[] args) {
    proposeRefused();
    judgeRefused();
    leastFirst();
    ringsJudged();
    equalsObey();
    thoseOut();
    proposalStays();
    seesWhatChanges();
    impossible();
    endsNothing();
    Check.end();
  }

  private static void proposeRefused() {
    TwoWaySeats x = Make.seats(Make.row(20), Make.row(1));
    Check.due("17: at first without seats", 2, x.judge());
    x.propose(0, 0, 20);
    Check.due("16: twenty", 0, x.judge());
    Check.refused("16: 21", Check.ARGUMENT, () -> x.propose(0, 0, 21));
    Check.refused("16: -1", Check.ARGUMENT, () -> x.propose(0, 0, -1));
    Check.refused("16: district 1", Check.INDEX, () -> x.propose(1, 0, 0));
    Check.refused("16: party 1", Check.INDEX, () -> x.propose(0, 1, 0));
    Check.refused("16: district -1", Check.INDEX, () -> x.propose(-1, 0, 0));
    Check.refused("16: party -1", Check.INDEX, () -> x.propose(0, -1, 0));
    Check.refused("16: index before seats", Check.INDEX, () -> x.propose(1, 0, 21));
    Check.refused("16: party before seats", Check.INDEX, () -> x.propose(0, 4, -1));
    Check.refused("16: the most", Check.INDEX, () -> x.propose(Integer.MAX_VALUE, 0, 1));
    Check.due("16: nothing changed", 0, x.judge());
    x.propose(0, 0, 0);
    Check.due("16: none is right, too", 2, x.judge());
  }

  private static void judgeRefused() {
    TwoWaySeats x = new TwoWaySeats();
    Check.refused("17: nothing", Check.STATE, () -> x.judge());
    x.district(1);
    x.party();
    Check.refused("17: no votes", Check.STATE, () -> x.judge());
    x.propose(0, 0, 1);
    Check.refused("17: no votes, but seats", Check.STATE, () -> x.judge());
    x.votes(0, 0, 5);
    Check.due("16: proposed before there was what to share", 0, x.judge());
  }

  private static void leastFirst() {
    // Shares 3 and 1.
    TwoWaySeats x = Make.seats(Make.row(2, 2), Make.row(30, 0), Make.row(30, 30));
    Check.due("9: shares", "3 1", Make.shares(x));
    Make.propose(x, Make.row(0, 1), Make.row(0, 0));
    Check.due("17: 1 before 2 and 3", 1, x.judge());
    Make.propose(x, Make.row(1, 1), Make.row(2, 0));
    Check.due("17: 1, though all sums are right", 1, x.judge());
    Make.propose(x, Make.row(1, 0), Make.row(2, 1));
    Check.due("17: 2, though the parties are right", 2, x.judge());
    Make.propose(x, Make.row(2, 0), Make.row(1, 0));
    Check.due("17: 2 before 3", 2, x.judge());
    Make.propose(x, Make.row(3, 0), Make.row(0, 1));
    Check.due("17: 2, one too many", 2, x.judge());
    Make.propose(x, Make.row(2, 0), Make.row(0, 2));
    Check.due("17: 3", 3, x.judge());
    Make.propose(x, Make.row(2, 0), Make.row(2, 0));
    Check.due("17: 3, the other way", 3, x.judge());
    Make.propose(x, Make.row(2, 0), Make.row(1, 1));
    Check.due("17: 0", 0, x.judge());
    Make.propose(x, Make.row(20, 0), Make.row(20, 20));
    Check.due("17: far too many", 2, x.judge());
  }

  private static void ringsJudged() {
    TwoWaySeats x = Make.seats(
        Make.row(1, 1, 1), Make.row(10, 10, 0), Make.row(0, 10, 11), Make.row(10, 0, 10));
    Make.propose(x, Make.row(1, 0, 0), Make.row(0, 1, 0), Make.row(0, 0, 1));
    Check.due("17: a ring of three gains", 4, x.judge());
    Make.propose(x, Make.row(0, 1, 0), Make.row(0, 0, 1), Make.row(1, 0, 0));
    Check.due("17: and does not back", 0, x.judge());
    TwoWaySeats y = Make.seats(
        Make.row(1, 1, 1, 1),
        Make.row(500, 500, 0, 0), Make.row(0, 500, 500, 0),
        Make.row(0, 0, 500, 500), Make.row(499, 0, 0, 500));
    Make.propose(y, Make.row(0, 1), Make.row(0, 0, 1), Make.row(0, 0, 0, 1), Make.row(1));
    Check.due("17: a ring of four gains 500/499", 4, y.judge());
    Make.propose(y, Make.row(1, 0), Make.row(0, 1, 0), Make.row(0, 0, 1, 0), Make.row(0, 0, 0, 1));
    Check.due("17: and does not back, four", 0, y.judge());
    TwoWaySeats z = Make.seats(Make.row(2, 2), Make.row(10, 10), Make.row(10, 10));
    Make.propose(z, Make.row(2, 0), Make.row(0, 2));
    Check.due("17: a ring of two gains", 4, z.judge());
    Make.propose(z, Make.row(0, 2), Make.row(2, 0));
    Check.due("17: its mirror, too", 4, z.judge());
    Make.propose(z, Make.row(1, 1), Make.row(1, 1));
    Check.due("17: even", 0, z.judge());
  }

  private static void equalsObey() {
    TwoWaySeats x = Make.seats(Make.row(1, 1), Make.row(10, 10), Make.row(10, 10));
    Make.propose(x, Make.row(1, 0), Make.row(0, 1));
    Check.due("17: the first obeys", 0, x.judge());
    Make.propose(x, Make.row(0, 1), Make.row(1, 0));
    Check.due("17: the last obeys", 0, x.judge());
    // From the one to the other 9/3 and 6/1 are won, 3/9 and 1/6 lost.
    TwoWaySeats y = Make.seats(Make.row(3, 1), Make.row(9, 9), Make.row(6, 6));
    Check.due("9: shares", "2 2", Make.shares(y));
    Make.propose(y, Make.row(2, 1), Make.row(0, 1));
    Check.due("17: two seats and one", 0, y.judge());
    Make.propose(y, Make.row(1, 2), Make.row(1, 0));
    Check.due("17: one seat and two", 0, y.judge());
  }

  private static void thoseOut() {
    TwoWaySeats x = Make.seats(Make.row(2, 2), Make.row(40, 10), Make.row(40, 10));
    Make.propose(x, Make.row(1, 1), Make.row(2, 0));
    Check.due("17: 3 and 1", 0, x.judge());
    x.threshold(201);
    Check.due("17: who is out has no votes", 1, x.judge());
    Make.propose(x, Make.row(2, 0), Make.row(2, 0));
    Check.due("17: all for the other", 0, x.judge());
    x.threshold(200);
    Check.due("17: in again", 3, x.judge());
  }

  private static void proposalStays() {
    TwoWaySeats x = Make.seats(Make.row(2), Make.row(40, 8));
    x.propose(0, 0, 2);
    Check.due("17: one district", 0, x.judge());
    x.district(1);
    Check.due("17: a district more, without seats", 2, x.judge());
    x.votes(1, 0, 5);
    x.propose(1, 0, 1);
    Check.due("17: what was proposed before stays", 0, x.judge());
    x.party();
    Check.due("17: a party more", 0, x.judge());
    x.propose(1, 2, 1);
    Check.due("17: a list without votes", 1, x.judge());
  }

  private static void seesWhatChanges() {
    // 120 : 100 of 14 is 8 6, weighed 10 : 50 is 2 12.
    TwoWaySeats x = Make.seats(Make.row(12, 2), Make.row(119, 50), Make.row(1, 50));
    Make.propose(x, Make.row(8, 4), Make.row(0, 2));
    Check.due("17: not weighed", 0, x.judge());
    x.weigh(true);
    Check.due("17: weighed", 3, x.judge());
    TwoWaySeats y = Make.seats(Make.row(1), Make.row(5, 5));
    y.propose(0, 0, 1);
    Check.due("17: by number", 0, y.judge());
    y.lot(0, 1);
    Check.due("17: by lot", 3, y.judge());
  }

  private static void impossible() {
    TwoWaySeats x = Make.seats(Make.row(3, 4), Make.row(10, 20), Make.row(0, 0));
    Make.propose(x, Make.row(2, 1), Make.row(0, 0));
    Check.due("17: where no table fits", 2, x.judge());
    x.votes(1, 0, 1);
    Make.propose(x, Make.row(0, 3), Make.row(4, 0));
    Check.due("17: shares 2 and 5 can't be", 3, x.judge());
  }

  private static void endsNothing() {
    TwoWaySeats x = Make.seats(Make.row(2, 2), Make.row(40, 10), Make.row(40, 10));
    Check.due("17: before solve", 2, x.judge());
    Check.refused("17: judge does not solve", Check.STATE, () -> x.unique());
    x.solve();
    String first = Make.table(x, false);
    String last = Make.table(x, true);
    Make.propose(x, Make.row(0, 2), Make.row(2, 0));
    Check.due("17: other shares", 3, x.judge());
    Check.due("16: ends nothing, first", first, Make.table(x, false));
    Check.due("16: ends nothing, last", last, Make.table(x, true));
    Check.due("16: the proposal is a table of its own", "2 0 | 1 1", Make.table(x, false));
    Check.due("16: last", "1 1 | 2 0", Make.table(x, true));
  }
}
