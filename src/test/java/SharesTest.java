/** Promises 9 and 10: share and tied. */
public final class SharesTest {
  public static void main(String[] args) {
    nothingToShare();
    indexes();
    shares();
    ties();
    tiesOfThree();
    tiesOfWeighed();
    tiesOfThoseOut();
    Check.end();
  }

  private static void nothingToShare() {
    TwoWaySeats x = new TwoWaySeats();
    x.party();
    Check.refused("9: no district", Check.STATE, () -> x.share(0));
    Check.refused("9: state before index", Check.STATE, () -> x.share(-1));
    Check.refused("10: no district", Check.STATE, () -> x.tied(0));
    Check.refused("10: state before index", Check.STATE, () -> x.tied(7));
    x.district(3);
    Check.refused("9: no weight", Check.STATE, () -> x.share(0));
    Check.refused("10: no weight", Check.STATE, () -> x.tied(0));
    TwoWaySeats y = new TwoWaySeats();
    y.district(3);
    Check.refused("9: no party", Check.STATE, () -> y.share(0));
    Check.refused("10: no party", Check.STATE, () -> y.tied(0));
  }

  private static void indexes() {
    TwoWaySeats x = Make.seats(Make.row(3), Make.row(1));
    Check.due("9: all", 3, x.share(0));
    Check.refused("9: no such party", Check.INDEX, () -> x.share(1));
    Check.refused("9: party -1", Check.INDEX, () -> x.share(-1));
    Check.refused("9: the most", Check.INDEX, () -> x.share(Integer.MAX_VALUE));
    Check.due("10: alone", false, x.tied(0));
    Check.refused("10: no such party", Check.INDEX, () -> x.tied(1));
    Check.refused("10: party -1", Check.INDEX, () -> x.tied(-1));
    Check.refused("10: the least", Check.INDEX, () -> x.tied(Integer.MIN_VALUE));
    x.party();
    Check.due("9: a party without votes", 0, x.share(1));
    Check.due("10: a party without votes", false, x.tied(1));
  }

  private static void shares() {
    TwoWaySeats x = Make.seats(Make.row(8), Make.row(53, 24, 23));
    Check.due("9: odd divisors", "4 2 2", Make.shares(x));
    Check.due("10: no tie", "---", Make.ties(x));
    x.votes(0, 2, 0);
    Check.due("9: 53/11 is above 24/5", "6 2 0", Make.shares(x));
    TwoWaySeats y = Make.seats(Make.row(20), Make.row(500, 12));
    Check.due("9: 500/39 is above 12", "20 0", Make.shares(y));
    y.votes(0, 1, 13);
    Check.due("9: but below 13", "19 1", Make.shares(y));
  }

  private static void ties() {
    TwoWaySeats x = Make.seats(Make.row(1), Make.row(30, 30, 10));
    Check.due("9: by number", "1 0 0", Make.shares(x));
    Check.due("10: for the first seat", "tt-", Make.ties(x));
    x.lot(0, 1);
    Check.due("9: by lot", "0 1 0", Make.shares(x));
    Check.due("10: a lot does not end the tie", "tt-", Make.ties(x));
    x.district(1);
    Check.due("9: both", "1 1 0", Make.shares(x));
    Check.due("10: the next seats of all are no tie", "---", Make.ties(x));
    x.votes(0, 0, 31);
    Check.due("10: the last seat against the next", "---", Make.ties(x));
  }

  private static void tiesOfThree() {
    TwoWaySeats x = Make.seats(Make.row(3), Make.row(30, 30, 10));
    Check.due("9: three", "2 1 0", Make.shares(x));
    Check.due("10: 30/3 and 30/3 and 10/1", "ttt", Make.ties(x));
    x.lot(0, 2);
    Check.due("9: three by lot", "1 1 1", Make.shares(x));
    Check.due("10: three still", "ttt", Make.ties(x));
    x.district(1);
    Check.due("9: four", "2 1 1", Make.shares(x));
    Check.due("10: four, the other way round", "ttt", Make.ties(x));
    x.district(1);
    Check.due("9: five", "2 2 1", Make.shares(x));
    Check.due("10: five, all have what is theirs", "---", Make.ties(x));
  }

  private static void tiesOfWeighed() {
    TwoWaySeats x = Make.seats(Make.row(2, 3), Make.row(10, 0), Make.row(0, 15));
    Check.due("9: not weighed", "2 3", Make.shares(x));
    Check.due("10: not weighed", "--", Make.ties(x));
    x.weigh(true);
    Check.due("9: weighed", "3 2", Make.shares(x));
    Check.due("10: weighed, 10/2 is 15/3", "tt", Make.ties(x));
    TwoWaySeats y = Make.seats(
        Make.row(3, 7, 1), Make.row(1, 0), Make.row(1, 0), Make.row(0, 0));
    y.votes(0, 1, 1);
    y.votes(1, 1, 1);
    y.weigh(true);
    Check.due("10: thirds and sevenths", "tt", Make.ties(y));
  }

  private static void tiesOfThoseOut() {
    TwoWaySeats x = Make.seats(Make.row(1, 2), Make.row(30, 30, 10), Make.row(0, 0, 0));
    x.threshold(143);
    Check.due("9: 10 of 70 are out", "2 1 0", Make.shares(x));
    Check.due("10: who is out is not tied", "tt-", Make.ties(x));
    x.threshold(142);
    Check.due("10: and in", "ttt", Make.ties(x));
  }
}
