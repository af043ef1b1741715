/**
 * The sentences of "Terms" on districts, lists, votes, weights and shares: each has its own test,
 * at its boundary and on both sides of it.
 */
public final class EdgesOfTermsTest {
  public static void main(String[] args) {
    fourDistrictsAtMost();
    seatsOfEach();
    seatsTogether();
    fourPartiesAtMost();
    votesAtFirstNone();
    votesUpTo500();
    eachListHasItsOwn();
    outIfLess();
    outOfAllListsThereAre();
    thresholdFrom0To1000();
    outForAllThatFollows();
    weightIsTheSum();
    weightDivided();
    sharesOneByOne();
    severalByTheOrder();
    onePositionOneParty();
    nothingToShare();
    allOutIsNothingToShare();
    tiedAtTheBoundary();
    tiedOnlyWhereOneHasSeats();
    Check.end();
  }

  /** One district of n seats, and a party for each of the votes. */
  private static TwoWaySeats district(int n, int... votes) {
    return Make.seats(Make.row(n), votes);
  }

  /** Only a list without votes makes a judgement of 1. */
  private static boolean hasVotes(TwoWaySeats x, int d, int p) {
    x.propose(d, p, 1);
    int judged = x.judge();
    x.propose(d, p, 0);
    return judged != 1;
  }

  /** "DISTRICTS are numbered 0, 1, .. , 4 at most" */
  private static void fourDistrictsAtMost() {
    TwoWaySeats x = new TwoWaySeats();
    for (int d = 0; d < 4; d++) {
      Check.due("district " + d, d, x.district(1));
      Check.due("so many districts", d + 1, x.count(false));
    }
    Check.refused("a fifth district", Check.UNSUPPORTED, () -> x.district(1));
    Check.due("still four districts", 4, x.count(false));
  }

  /** "with 1 .. 20 SEATS each" */
  private static void seatsOfEach() {
    for (int n = -1; n <= 22; n++) {
      TwoWaySeats x = new TwoWaySeats();
      int seats = n;
      if (n < 1 || n > 20) {
        Check.refused(n + " seats", Check.ARGUMENT, () -> x.district(seats));
        Check.due("no district of " + n, 0, x.count(false));
      } else {
        Check.due(n + " seats", 0, x.district(n));
        x.party();
        x.votes(0, 0, 1);
        Check.due("all of " + n, n, x.share(0));
      }
    }
  }

  /** "and 20 at most together" */
  private static void seatsTogether() {
    int[][] before = {{20}, {19}, {1}, {10, 9}, {6, 7}, {1, 1, 1}, {6, 6, 6}};
    for (int[] sizes : before) {
      int left = 20;
      for (int size : sizes) {
        left -= size;
      }
      TwoWaySeats x = Make.seats(sizes, Make.row(1));
      int tooMany = left + 1;
      int just = left;
      Check.refused("21 together", Check.ARGUMENT, () -> x.district(tooMany));
      Check.due("not counted", 20 - left, x.share(0));
      if (left > 0) {
        Check.due("20 together", sizes.length, x.district(just));
        Check.due("all 20", 20, x.share(0));
        Check.refused("one more", Check.ARGUMENT, () -> x.district(1));
      }
    }
    TwoWaySeats y = Make.seats(Make.row(5, 5, 5, 4), Make.row(1));
    Check.due("19 together", 19, y.share(0));
  }

  /** "PARTIES 0, 1, .. , 4 at most" */
  private static void fourPartiesAtMost() {
    TwoWaySeats x = new TwoWaySeats();
    for (int p = 0; p < 4; p++) {
      Check.due("party " + p, p, x.party());
      Check.due("so many parties", p + 1, x.count(true));
    }
    Check.refused("a fifth party", Check.UNSUPPORTED, () -> x.party());
    Check.due("still four parties", 4, x.count(true));
  }

  /** "A LIST is a district and a party; it has VOTES, .. at first 0." */
  private static void votesAtFirstNone() {
    for (int k = 1; k < 16; k++) {
      TwoWaySeats x = fourByFour();
      x.votes(0, 0, 1);
      Check.due("list " + k + " at first", false, hasVotes(x, k / 4, k % 4));
      x.votes(k / 4, k % 4, 1);
      Check.due("list " + k + " with one", true, hasVotes(x, k / 4, k % 4));
      x.votes(k / 4, k % 4, 0);
      Check.due("list " + k + " with none again", false, hasVotes(x, k / 4, k % 4));
    }
    TwoWaySeats y = fourByFour();
    Check.refused("none has votes", Check.STATE, () -> y.share(0));
    y.votes(0, 0, 1);
    Check.due("the first with one", 20, y.share(0));
  }

  private static TwoWaySeats fourByFour() {
    return Make.seats(Make.row(5, 5, 5, 5), Make.row(0, 0, 0, 0));
  }

  /** "VOTES, 0 .. 500" */
  private static void votesUpTo500() {
    // The seat is the other party's, so the number of this one is its votes.
    TwoWaySeats x = district(1, 0, 500);
    x.lot(0, 1);
    for (int n : new int[] {1, 2, 499, 500}) {
      x.votes(0, 0, n);
      x.solve();
      Check.due(n + " votes", n + "/1", Make.number(x, true, 0));
    }
    Check.refused("501 votes", Check.ARGUMENT, () -> x.votes(0, 0, 501));
    Check.due("500 still", "500/1", Make.number(x, true, 0));
    x.votes(0, 0, 0);
    x.solve();
    Check.refused("0 votes", Check.NO_ELEMENT, () -> x.number(true, 0, false));
    Check.refused("-1 votes", Check.ARGUMENT, () -> x.votes(0, 0, -1));
    Check.refused("0 still", Check.NO_ELEMENT, () -> x.number(true, 0, false));
  }

  /** "A LIST is a district and a party": no other list has its votes. */
  private static void eachListHasItsOwn() {
    for (int k = 0; k < 16; k++) {
      TwoWaySeats x = fourByFour();
      x.votes(k / 4, k % 4, 7);
      for (int j = 0; j < 16; j++) {
        Check.due("list " + j + " by " + k, j == k, hasVotes(x, j / 4, j % 4));
      }
      Check.due("its party's share", 20, x.share(k % 4));
    }
  }

  /** "A party is OUT, if 1000 times the votes of all its lists is less than the THRESHOLD .." */
  private static void outIfLess() {
    TwoWaySeats x = Make.seats(
        Make.row(5, 5, 5, 5),
        Make.row(500, 500, 500, 3), Make.row(500, 500, 495, 2),
        Make.row(500, 500, 0, 0), Make.row(500, 500, 0, 0));
    x.threshold(1);
    Check.due("5 of 5000 reach 1 thousandth", true, hasVotes(x, 0, 3));
    x.votes(1, 2, 496);
    Check.due("5 of 5001 do not", false, hasVotes(x, 0, 3));
    x.votes(1, 2, 494);
    Check.due("5 of 4999 do", true, hasVotes(x, 0, 3));
    TwoWaySeats y = Make.seats(Make.row(2, 2), Make.row(500, 0), Make.row(499, 1));
    y.threshold(999);
    Check.due("999 of 1000 reach 999", true, hasVotes(y, 0, 0));
    Check.due("1 of 1000 does not", false, hasVotes(y, 1, 1));
    y.votes(1, 0, 500);
    Check.due("1000 of 1001 reach 999", true, hasVotes(y, 0, 0));
    y.votes(0, 0, 498);
    Check.refused("998 of 999 do not", Check.STATE, () -> y.judge());
  }

  /** ".. times the votes of all lists there are": also of those that are out. */
  private static void outOfAllListsThereAre() {
    TwoWaySeats x = district(10, 60, 20, 20);
    x.threshold(200);
    Check.due("20 of 100 reach 200", "6 2 2", Make.shares(x));
    x.threshold(201);
    Check.due("but not 201", "10 0 0", Make.shares(x));
    x.threshold(600);
    Check.due("60 of 100 reach 600", "10 0 0", Make.shares(x));
    x.threshold(601);
    Check.refused("but not 601, though alone", Check.STATE, () -> x.share(0));
    TwoWaySeats y = fourByFour();
    for (int k = 0; k < 16; k++) {
      y.votes(k / 4, k % 4, 500);
    }
    y.threshold(250);
    Check.due("2000 of 8000 reach 250", "5 5 5 5", Make.shares(y));
    y.threshold(251);
    Check.refused("but not 251", Check.STATE, () -> y.share(0));
  }

  /** "the THRESHOLD (0 .. 1000, at first 0)" */
  private static void thresholdFrom0To1000() {
    TwoWaySeats x = Make.seats(
        Make.row(5, 5, 5, 5),
        Make.row(500, 500, 500, 1), Make.row(500, 500, 500, 0),
        Make.row(500, 500, 500, 0), Make.row(500, 500, 500, 0));
    Check.due("1 of 6001 at first", true, hasVotes(x, 0, 3));
    Check.refused("-1", Check.ARGUMENT, () -> x.threshold(-1));
    Check.due("as before", true, hasVotes(x, 0, 3));
    x.threshold(1);
    Check.due("1 of 6001 does not reach 1", false, hasVotes(x, 0, 3));
    x.threshold(0);
    Check.due("but 0", true, hasVotes(x, 0, 3));
    TwoWaySeats y = district(7, 9, 0);
    y.threshold(1000);
    Check.due("9 of 9 reach 1000", "7 0", Make.shares(y));
    Check.refused("1001", Check.ARGUMENT, () -> y.threshold(1001));
    Check.due("as before", "7 0", Make.shares(y));
    y.votes(0, 1, 1);
    Check.refused("9 of 10 do not", Check.STATE, () -> y.share(0));
    y.threshold(900);
    Check.due("but 900", "7 0", Make.shares(y));
    y.threshold(999);
    Check.refused("not 999", Check.STATE, () -> y.share(0));
  }

  /** "for all that follows its lists have no votes then" */
  private static void outForAllThatFollows() {
    TwoWaySeats x = Make.seats(Make.row(2, 1), Make.row(40, 10), Make.row(10, 10));
    x.threshold(285);
    Check.due("20 of 70 are in: shares", "2 1", Make.shares(x));
    x.solve();
    Check.due("in: the table", "2 0 | 0 1", Make.table(x, false));
    Check.due("in: has votes", true, hasVotes(x, 0, 1));
    Check.due("in: a number", "10/1", Make.number(x, true, 1));
    x.threshold(286);
    Check.due("out: shares", "3 0", Make.shares(x));
    Check.due("out: ties", "--", Make.ties(x));
    Check.due("out: solved", true, x.solve());
    Check.due("out: the first table", "2 0 | 1 0", Make.table(x, false));
    Check.due("out: the last table", "2 0 | 1 0", Make.table(x, true));
    Check.due("out: has no votes", false, hasVotes(x, 0, 1));
    Check.refused("out: no number", Check.NO_ELEMENT, () -> x.number(true, 1, false));
    x.votes(1, 0, 0);
    x.threshold(333);
    Check.due("in: only it is in the second", "2 1", Make.shares(x));
    Check.due("in: solved", true, x.solve());
    x.threshold(334);
    Check.due("out: the second has no votes left", false, x.solve());
    Check.due("out: it is no party of the block", "-b --", Make.block(x));
  }

  /** "THE WEIGHT of a party is the sum of the votes of its lists" */
  private static void weightIsTheSum() {
    // 19 seats, so the odd one goes to who has more, or by the order.
    TwoWaySeats x = Make.seats(
        Make.row(4, 5, 5, 5),
        Make.row(100, 400), Make.row(200, 300), Make.row(300, 200), Make.row(400, 100));
    Check.due("1000 and 1000", "10 9 tt", Make.shares(x) + " " + Make.ties(x));
    for (int d = 0; d < 4; d++) {
      x.votes(d, 1, 400 - 100 * d + 1);
      Check.due("1001, by district " + d, "9 10 --", Make.shares(x) + " " + Make.ties(x));
      x.votes(d, 1, 400 - 100 * d - 1);
      Check.due("999, by district " + d, "10 9 --", Make.shares(x) + " " + Make.ties(x));
      x.votes(d, 1, 400 - 100 * d);
    }
    Check.due("1000 again", "10 9 tt", Make.shares(x) + " " + Make.ties(x));
  }

  /** "if votes are WEIGHED (at first not), of the votes of each list divided by the seats .." */
  private static void weightDivided() {
    TwoWaySeats x = Make.seats(Make.row(1, 18), Make.row(5, 0), Make.row(0, 90));
    Check.due("5 and 90 at first", "1 18", Make.shares(x));
    x.weigh(true);
    Check.due("5/1 and 90/18", "10 9 tt", Make.shares(x) + " " + Make.ties(x));
    x.votes(1, 1, 91);
    Check.due("5/1 and 91/18", "9 10 --", Make.shares(x) + " " + Make.ties(x));
    x.votes(1, 1, 89);
    Check.due("5/1 and 89/18", "10 9 --", Make.shares(x) + " " + Make.ties(x));
    x.weigh(false);
    Check.due("5 and 89", "1 18", Make.shares(x));
    // 10/3 + 10/4 + 10/5 + 10/7 is 3890/420; the other party has 3889/420, then 3891/420.
    TwoWaySeats y = Make.seats(
        Make.row(3, 4, 5, 7),
        Make.row(10, 2), Make.row(10, 1), Make.row(10, 1), Make.row(10, 57));
    y.weigh(true);
    y.lot(0, 1);
    Check.due("one 420th less", "10 9 --", Make.shares(y) + " " + Make.ties(y));
    y.votes(0, 1, 3);
    y.votes(1, 1, 3);
    y.votes(2, 1, 4);
    y.votes(3, 1, 47);
    y.lot(0, 0);
    Check.due("one 420th more", "9 10 --", Make.shares(y) + " " + Make.ties(y));
  }

  /** "each to the party for which weight / (2 * s + 1) is greatest" */
  private static void sharesOneByOne() {
    for (int n = 1; n <= 20; n++) {
      int votes = 10 * (2 * n - 1);
      String all = n + " 0 ";
      String less = n - 1 + " 1 ";
      TwoWaySeats x = district(n, votes, 10);
      Check.due("seat " + n + " is 10 of both", all + "tt", Make.shares(x) + " " + Make.ties(x));
      x.lot(3, 1);
      Check.due("seat " + n + " by lot", less + "tt", Make.shares(x) + " " + Make.ties(x));
      x.votes(0, 0, votes + 1);
      Check.due("seat " + n + ", above 10", all + "--", Make.shares(x) + " " + Make.ties(x));
      x.lot(3, 0);
      x.votes(0, 0, votes - 1);
      Check.due("seat " + n + ", below 10", less + "--", Make.shares(x) + " " + Make.ties(x));
    }
  }

  /** "of several to the first one in the ORDER": all equal, so 1, 2, .. seats tell who is next. */
  private static String order(int... lots) {
    StringBuilder text = new StringBuilder();
    String before = "0 0 0 0";
    for (int n = 1; n <= 4; n++) {
      TwoWaySeats x = district(n, 6, 6, 6, 6);
      for (int k = 0; k + 1 < lots.length; k += 2) {
        x.lot(lots[k], lots[k + 1]);
      }
      String now = Make.shares(x);
      for (int p = 0; p < 4; p++) {
        if (now.charAt(2 * p) != before.charAt(2 * p)) {
          text.append(p);
        }
      }
      before = now;
    }
    return text.toString();
  }

  /** "parties with a POSITION (0 .. 3, at first none has one) by these, then the others .." */
  private static void severalByTheOrder() {
    Check.due("at first none", "0123", order());
    for (int position = 0; position < 4; position++) {
      Check.due("only 3 has one", "3012", order(position, 3));
      Check.due("only 1 has one", "1023", order(position, 1));
      Check.due("only 0 has one", "0123", order(position, 0));
    }
    Check.due("all", "3210", order(3, 0, 2, 1, 1, 2, 0, 3));
    Check.due("all, told the other way", "3210", order(0, 3, 1, 2, 2, 1, 3, 0));
    Check.due("0 before 1", "2103", order(0, 2, 1, 1));
    Check.due("1 before 2", "3201", order(2, 2, 1, 3));
    Check.due("2 before 3", "1302", order(3, 3, 2, 1));
    Check.due("the others by number", "2013", order(2, 2));
    TwoWaySeats x = district(2, 6, 0, 6);
    x.lot(0, 1);
    Check.due("a position is no weight", "1 0 1", Make.shares(x));
    x.votes(0, 0, 19);
    x.lot(0, 2);
    Check.due("nor goes it before more", "2 0 0", Make.shares(x));
    x.votes(0, 0, 18);
    Check.due("18/3 is 6", "1 0 1", Make.shares(x));
  }

  /** The order where one is the first, or the first two are these. */
  private static String before(int first, int second) {
    String rest = "0123".replace("" + first, "").replace("" + second, "");
    return first + "" + second + rest;
  }

  /** "A party has a position from now on; the party that had it has none any more, nor has .." */
  private static void onePositionOneParty() {
    for (int k = 0; k < 16; k++) {
      int one = k / 4;
      int other = k % 4;
      if (one == other) {
        continue;
      }
      String rest = "0123".replace("" + other, "");
      for (int position = 0; position < 4; position++) {
        int next = (position + 1) % 4;
        Check.due("taken over", other + rest, order(position, one, position, other));
        Check.due("moved on", other + rest, order(position, other, next, other));
        String due = next < position ? before(one, other) : before(other, one);
        Check.due("moved on, and taken", due, order(position, one, next, one, position, other));
        Check.due("both in turn", due, order(position, other, next, one));
        Check.due("told twice", due, order(position, other, next, one, position, other));
      }
    }
  }

  private static void nothing(String where, TwoWaySeats x) {
    Check.refused(where + ": share", Check.STATE, () -> x.share(0));
    Check.refused(where + ": tied", Check.STATE, () -> x.tied(0));
    Check.refused(where + ": solve", Check.STATE, () -> x.solve());
    Check.refused(where + ": judge", Check.STATE, () -> x.judge());
    Check.refused(where + ": not solved by it", Check.STATE, () -> x.blocks(false, 0));
    Check.refused(where + ": no table by it", Check.STATE, () -> x.seats(0, 0, false));
  }

  private static void something(String where, TwoWaySeats x, int share) {
    Check.due(where + ": share", share, x.share(0));
    Check.due(where + ": tied", false, x.tied(0));
    Check.due(where + ": solve", true, x.solve());
    Check.due(where + ": seats", share, x.seats(0, 0, false));
    Check.due(where + ": judge", share == 0 ? 0 : 2, x.judge());
  }

  /** "If there is no district, or no party with a weight above 0, there is NOTHING TO SHARE." */
  private static void nothingToShare() {
    TwoWaySeats x = new TwoWaySeats();
    nothing("new", x);
    x.party();
    nothing("no district", x);
    x.weigh(true);
    nothing("no district, weighed", x);
    x.district(1);
    nothing("no votes, weighed", x);
    x.weigh(false);
    nothing("no votes", x);
    x.votes(0, 0, 1);
    something("one vote", x, 1);
    x.votes(0, 0, 0);
    nothing("taken away", x);
    TwoWaySeats y = new TwoWaySeats();
    y.district(20);
    nothing("no party", y);
    y.party();
    nothing("a party without votes", y);
    y.votes(0, 0, 1);
    y.weigh(true);
    something("a twentieth of a vote", y, 20);
    TwoWaySeats z = new TwoWaySeats();
    for (int p = 0; p < 4; p++) {
      z.party();
      nothing("parties alone", z);
    }
    for (int d = 0; d < 4; d++) {
      z.district(5);
      nothing("without votes", z);
    }
    z.votes(3, 3, 1);
    Check.due("the last list's vote", "0 0 0 20", Make.shares(z));
  }

  /** ".. no party with a weight above 0": those that are OUT have none. */
  private static void allOutIsNothingToShare() {
    TwoWaySeats x = district(3, 8, 0);
    x.threshold(1000);
    something("all votes", x, 3);
    x.votes(0, 1, 8);
    nothing("all are out", x);
    x.threshold(501);
    nothing("all are out still", x);
    x.threshold(500);
    Check.due("all are in", "2 1", Make.shares(x));
  }

  /** "weight / (2 * share - 1) of that one is weight / (2 * share + 1) of the other one" */
  private static void tiedAtTheBoundary() {
    TwoWaySeats x = district(5, 21, 35);
    // 35/5 and 21/3 are 7: the fourth and fifth seats, so both have what is theirs.
    Check.due("both have it", "2 3 --", Make.shares(x) + " " + Make.ties(x));
    TwoWaySeats y = district(4, 21, 35);
    Check.due("one of both", "2 2 tt", Make.shares(y) + " " + Make.ties(y));
    y.lot(0, 1);
    Check.due("the other one", "1 3 tt", Make.shares(y) + " " + Make.ties(y));
    y.votes(0, 0, 22);
    Check.due("a vote more", "2 2 --", Make.shares(y) + " " + Make.ties(y));
    y.votes(0, 0, 20);
    Check.due("a vote fewer", "1 3 --", Make.shares(y) + " " + Make.ties(y));
    TwoWaySeats z = district(3, 21, 35);
    Check.due("a seat before", "1 2 --", Make.shares(z) + " " + Make.ties(z));
  }

  /** "if there is another one such that one of the two has seats .., and this is above 0" */
  private static void tiedOnlyWhereOneHasSeats() {
    TwoWaySeats x = district(1, 500, 5, 5);
    Check.due("neither 1 nor 2 has seats", "1 0 0 ---", Make.shares(x) + " " + Make.ties(x));
    TwoWaySeats y = district(2, 30, 10, 10, 9);
    Check.due("1 and 2 each with 0", "2 0 0 0 ttt-", Make.shares(y) + " " + Make.ties(y));
    y.lot(0, 2);
    Check.due("0 and 1 each with 2", "1 0 1 0 ttt-", Make.shares(y) + " " + Make.ties(y));
    TwoWaySeats z = district(1, 7, 0, 0, 0);
    Check.due("none with no weight", "1 0 0 0 ----", Make.shares(z) + " " + Make.ties(z));
    TwoWaySeats alone = district(20, 500);
    Check.due("no other one", "20 -", Make.shares(alone) + " " + Make.ties(alone));
    TwoWaySeats least = district(1, 1, 1);
    Check.due("of one vote each", "1 0 tt", Make.shares(least) + " " + Make.ties(least));
    least.lot(0, 1);
    Check.due("and by lot", "0 1 tt", Make.shares(least) + " " + Make.ties(least));
    TwoWaySeats two = district(2, 90, 30, 10);
    Check.due("90/3 and 30", "2 0 0 tt-", Make.shares(two) + " " + Make.ties(two));
  }
}
