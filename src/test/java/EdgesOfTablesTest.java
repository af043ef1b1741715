import java.math.BigInteger;

/**
 * The sentences of "Terms" on tables, rings, ways, numbers and the block: each has its own test, at
 * its boundary and on both sides of it.
 */
public final class EdgesOfTablesTest {
  public static void main(String[] args) {
    districtsHaveTheirSeats();
    partiesHaveTheirShares();
    listsWithoutVotesHaveNone();
    noRingOfOne();
    ringsOfTwo();
    ringsOfThree();
    ringsOfFour();
    gainsByTheSeatsBefore();
    formerHaveVotes();
    latterHaveSeats();
    firstAndLast();
    firstAndLastByDistrictThenParty();
    waysToPartiesNeedVotes();
    waysToDistrictsNeedSeats();
    numbersOfDistrictsAreOneAtLeast();
    numbersAreTheGreatest();
    numbersOfLongWays();
    numbersLieClose();
    numbersKeepTheirPromise();
    blockByOneSeat();
    blockOfEachSize();
    blockOfTheLeastSum();
    partiesOfTheBlock();
    Check.end();
  }

  private static int judged(TwoWaySeats x, int[]... table) {
    Make.propose(x, table);
    return x.judge();
  }

  /** "It FITS, if the lists of each district have its seats together" */
  private static void districtsHaveTheirSeats() {
    TwoWaySeats x = Make.seats(Make.row(2, 2), Make.row(10, 10), Make.row(10, 10));
    Check.due("just its seats", 0, judged(x, Make.row(1, 1), Make.row(1, 1)));
    Check.due("one too few", 2, judged(x, Make.row(0, 1), Make.row(1, 1)));
    Check.due("one too many", 2, judged(x, Make.row(2, 1), Make.row(1, 1)));
    Check.due("one from the other", 2, judged(x, Make.row(2, 1), Make.row(0, 1)));
    Check.due("one to the other", 2, judged(x, Make.row(1, 0), Make.row(1, 2)));
    TwoWaySeats y = Make.seats(
        Make.row(1, 1, 1, 1), Make.row(9), Make.row(9), Make.row(9), Make.row(9));
    for (int d = 0; d < 4; d++) {
      Make.propose(y, Make.row(1), Make.row(1), Make.row(1), Make.row(1));
      Check.due("all have theirs", 0, y.judge());
      y.propose(d, 0, 0);
      Check.due("all but district " + d, 2, y.judge());
      y.propose(d, 0, 2);
      Check.due("district " + d + " with one too many", 2, y.judge());
    }
  }

  /** "those of each party its share" */
  private static void partiesHaveTheirShares() {
    TwoWaySeats x = Make.seats(Make.row(8), Make.row(10, 10, 10, 10));
    Check.due("shares", "2 2 2 2", Make.shares(x));
    Check.due("just theirs", 0, judged(x, Make.row(2, 2, 2, 2)));
    for (int p = 0; p < 4; p++) {
      int q = (p + 1) % 4;
      x.propose(0, p, 1);
      x.propose(0, q, 3);
      Check.due("one from " + p + " to " + q, 3, x.judge());
      x.propose(0, p, 2);
      x.propose(0, q, 2);
    }
    Check.due("theirs again", 0, x.judge());
  }

  /** "and lists without votes none" */
  private static void listsWithoutVotesHaveNone() {
    for (int k = 0; k < 16; k++) {
      TwoWaySeats x = Make.seats(
          Make.row(1, 1, 1, 1), Make.row(9, 9, 9, 9), Make.row(9, 9, 9, 9),
          Make.row(9, 9, 9, 9), Make.row(9, 9, 9, 9));
      // Party k % 4 has its seat in district k / 4, the others follow round.
      for (int d = 0; d < 4; d++) {
        x.propose(d, (k % 4 + d - k / 4 + 4) % 4, 1);
      }
      Check.due("with votes", 0, x.judge());
      x.votes(k / 4, k % 4, 0);
      Check.due("shares without list " + k, "1 1 1 1", Make.shares(x));
      Check.due("without votes, list " + k, 1, x.judge());
      x.solve();
      Check.due("no seats, first", 0, x.seats(k / 4, k % 4, false));
      Check.due("no seats, last", 0, x.seats(k / 4, k % 4, true));
      x.votes(k / 4, k % 4, 1);
      Check.due("with one it fits", 4, x.judge());
    }
  }

  /** "A RING is two or more districts d1, d2, .. dk, all different, and as many parties" */
  private static void noRingOfOne() {
    TwoWaySeats x = Make.seats(Make.row(20), Make.row(500, 300, 100, 1));
    Check.due("shares", "11 7 2 0", Make.shares(x));
    Check.due("one district", 0, judged(x, Make.row(11, 7, 2, 0)));
    x.solve();
    Check.due("one district has one table", true, x.unique());
    TwoWaySeats y = Make.seats(
        Make.row(1, 2, 3, 14), Make.row(500), Make.row(1), Make.row(499), Make.row(2));
    Check.due("one party", 0, judged(y, Make.row(1), Make.row(2), Make.row(3), Make.row(14)));
    y.solve();
    Check.due("one party has one table", true, y.unique());
  }

  /** "no ring along which one can go has a gain above 1": two districts, 249001 and 249000. */
  private static void ringsOfTwo() {
    TwoWaySeats x = Make.seats(Make.row(1, 1), Make.row(498, 499), Make.row(499, 500));
    Check.due("a gain of 249001/249000", 4, judged(x, Make.row(1, 0), Make.row(0, 1)));
    Check.due("a gain of 249000/249001", 0, judged(x, Make.row(0, 1), Make.row(1, 0)));
    x.solve();
    Check.due("the only one", "0 1 | 1 0, 0 1 | 1 0", tables(x));
    x.votes(0, 0, 499);
    x.votes(1, 1, 499);
    Check.due("a gain of 1", 0, judged(x, Make.row(1, 0), Make.row(0, 1)));
    Check.due("a gain of 1 back", 0, judged(x, Make.row(0, 1), Make.row(1, 0)));
    x.solve();
    Check.due("both", "1 0 | 0 1, 0 1 | 1 0", tables(x));
    x.votes(0, 1, 498);
    x.votes(1, 0, 500);
    Check.due("now below 1", 0, judged(x, Make.row(1, 0), Make.row(0, 1)));
    Check.due("now above 1", 4, judged(x, Make.row(0, 1), Make.row(1, 0)));
    x.solve();
    Check.due("the other one", "1 0 | 0 1, 1 0 | 0 1", tables(x));
  }

  private static String tables(TwoWaySeats x) {
    boolean same = Make.table(x, false).equals(Make.table(x, true));
    Check.due("unique", same, x.unique());
    return Make.table(x, false) + ", " + Make.table(x, true);
  }

  /** ".. a gain above 1": three districts, 483 * 485 * 499 is 479 * 494 * 494 and 1 more. */
  private static void ringsOfThree() {
    TwoWaySeats x = Make.seats(
        Make.row(1, 1, 1), Make.row(479, 483, 0), Make.row(0, 494, 485), Make.row(499, 0, 494));
    int[][] straight = {Make.row(1, 0, 0), Make.row(0, 1, 0), Make.row(0, 0, 1)};
    int[][] round = {Make.row(0, 1, 0), Make.row(0, 0, 1), Make.row(1, 0, 0)};
    Check.due("above 1 by least", 4, judged(x, straight));
    Check.due("below 1 by least", 0, judged(x, round));
    x.solve();
    Check.due("the only one", "0 1 0 | 0 0 1 | 1 0 0, 0 1 0 | 0 0 1 | 1 0 0", tables(x));
    TwoWaySeats y = Make.seats(
        Make.row(1, 1, 1), Make.row(483, 479, 0), Make.row(0, 485, 494), Make.row(494, 0, 499));
    Check.due("the other way, below 1", 0, judged(y, straight));
    Check.due("the other way, above 1", 4, judged(y, round));
    y.solve();
    Check.due("the other one", "1 0 0 | 0 1 0 | 0 0 1, 1 0 0 | 0 1 0 | 0 0 1", tables(y));
    TwoWaySeats z = Make.seats(
        Make.row(1, 1, 1), Make.row(494, 479, 0), Make.row(0, 479, 494), Make.row(494, 0, 494));
    Check.due("just 1", 0, judged(z, straight));
    Check.due("just 1 back", 0, judged(z, round));
    z.solve();
    Check.due("both", "1 0 0 | 0 1 0 | 0 0 1, 0 1 0 | 0 0 1 | 1 0 0", tables(z));
  }

  /** ".. a gain above 1": four districts, 463 * 464 * 482 * 484 is 445 * 471 * 487 * 491 and 1. */
  private static void ringsOfFour() {
    int[][] straight = {
      Make.row(1, 0, 0, 0), Make.row(0, 1, 0, 0), Make.row(0, 0, 1, 0), Make.row(0, 0, 0, 1)
    };
    int[][] round = {
      Make.row(0, 1, 0, 0), Make.row(0, 0, 1, 0), Make.row(0, 0, 0, 1), Make.row(1, 0, 0, 0)
    };
    String first = "1 0 0 0 | 0 1 0 0 | 0 0 1 0 | 0 0 0 1";
    String last = "0 1 0 0 | 0 0 1 0 | 0 0 0 1 | 1 0 0 0";
    TwoWaySeats x = Make.seats(
        Make.row(1, 1, 1, 1),
        Make.row(445, 463, 0, 0), Make.row(0, 471, 464, 0),
        Make.row(0, 0, 487, 482), Make.row(484, 0, 0, 491));
    Check.due("above 1 by least", 4, judged(x, straight));
    Check.due("below 1 by least", 0, judged(x, round));
    x.solve();
    Check.due("the only one", last + ", " + last, tables(x));
    TwoWaySeats y = Make.seats(
        Make.row(1, 1, 1, 1),
        Make.row(463, 445, 0, 0), Make.row(0, 464, 471, 0),
        Make.row(0, 0, 482, 487), Make.row(491, 0, 0, 484));
    Check.due("the other way, below 1", 0, judged(y, straight));
    Check.due("the other way, above 1", 4, judged(y, round));
    y.solve();
    Check.due("the other one", first + ", " + first, tables(y));
    TwoWaySeats z = Make.seats(
        Make.row(1, 1, 1, 1),
        Make.row(463, 464, 0, 0), Make.row(0, 464, 482, 0),
        Make.row(0, 0, 482, 484), Make.row(463, 0, 0, 484));
    Check.due("just 1", 0, judged(z, straight));
    Check.due("just 1 back", 0, judged(z, round));
    z.solve();
    Check.due("both", first + ", " + last, tables(z));
  }

  /** "votes / (2 * s + 1) of all the former and (2 * s - 1) / votes of all the latter" */
  private static void gainsByTheSeatsBefore() {
    // From the one to the other 9/3 and 6/1 are won, 3/9 and 1/6 lost.
    TwoWaySeats x = Make.seats(Make.row(3, 1), Make.row(9, 9), Make.row(6, 6));
    Check.due("just 1", 0, judged(x, Make.row(2, 1), Make.row(0, 1)));
    Check.due("just 1 back", 0, judged(x, Make.row(1, 2), Make.row(1, 0)));
    x.votes(0, 0, 10);
    Check.due("9/10", 0, judged(x, Make.row(2, 1), Make.row(0, 1)));
    Check.due("10/9", 4, judged(x, Make.row(1, 2), Make.row(1, 0)));
    x.votes(0, 0, 8);
    Check.due("9/8", 4, judged(x, Make.row(2, 1), Make.row(0, 1)));
    Check.due("8/9", 0, judged(x, Make.row(1, 2), Make.row(1, 0)));
    // The last of 10 seats against the ninth: 19 * 17 of both, 1 vote of 323 away.
    TwoWaySeats y = Make.seats(Make.row(10, 10), Make.row(323, 17), Make.row(323, 17));
    Check.due("shares", "19 1", Make.shares(y));
    Check.due("first", 0, judged(y, Make.row(10, 0), Make.row(9, 1)));
    Check.due("last", 0, judged(y, Make.row(9, 1), Make.row(10, 0)));
    y.votes(0, 0, 324);
    Check.due("first by 324", 0, judged(y, Make.row(10, 0), Make.row(9, 1)));
    Check.due("last by 324", 4, judged(y, Make.row(9, 1), Make.row(10, 0)));
    y.votes(0, 0, 322);
    Check.due("first by 322", 4, judged(y, Make.row(10, 0), Make.row(9, 1)));
    Check.due("last by 322", 0, judged(y, Make.row(9, 1), Make.row(10, 0)));
  }

  /** "That can be done in a table, if all the former have votes" */
  private static void formerHaveVotes() {
    TwoWaySeats x = Make.seats(
        Make.row(1, 1, 1), Make.row(3, 200), Make.row(0, 3), Make.row(200, 0));
    int[][] table = {Make.row(1, 0), Make.row(0, 1), Make.row(1, 0)};
    Check.due("shares", "2 1", Make.shares(x));
    Check.due("no votes, no ring", 0, judged(x, table));
    x.solve();
    Check.due("the only table that fits", "1 0 | 0 1 | 1 0, 1 0 | 0 1 | 1 0", tables(x));
    x.votes(1, 0, 1);
    Check.due("one vote, a gain of 200/9", 4, judged(x, table));
    x.solve();
    Check.due("another table", "0 1 | 1 0 | 1 0, 0 1 | 1 0 | 1 0", tables(x));
  }

  /** ".. and all the latter seats": two lists that have none would make a gain of -1 times -1. */
  private static void latterHaveSeats() {
    TwoWaySeats x = Make.seats(Make.row(1, 1), Make.row(500, 1), Make.row(1, 500));
    Check.due("none to give", 0, judged(x, Make.row(1, 0), Make.row(0, 1)));
    Check.due("one to give", 4, judged(x, Make.row(0, 1), Make.row(1, 0)));
    x.solve();
    Check.due("the table", "1 0 | 0 1, 1 0 | 0 1", tables(x));
    TwoWaySeats y = Make.seats(
        Make.row(1, 1, 1, 1),
        Make.row(500, 1, 1, 1), Make.row(1, 500, 1, 1),
        Make.row(1, 1, 500, 1), Make.row(1, 1, 1, 500));
    y.solve();
    String table = "1 0 0 0 | 0 1 0 0 | 0 0 1 0 | 0 0 0 1";
    Check.due("four that have none", table + ", " + table, tables(y));
  }

  /** "THE FIRST .. has more seats for the first list for which they differ, THE LAST .. fewer" */
  private static void firstAndLast() {
    TwoWaySeats x = Make.seats(
        Make.row(1, 1, 1, 1), Make.row(9, 9, 9, 9), Make.row(9, 9, 9, 9),
        Make.row(9, 9, 9, 9), Make.row(9, 9, 9, 9));
    x.solve();
    String first = "1 0 0 0 | 0 1 0 0 | 0 0 1 0 | 0 0 0 1";
    Check.due("of 24", first + ", 0 0 0 1 | 0 0 1 0 | 0 1 0 0 | 1 0 0 0", tables(x));
    TwoWaySeats y = Make.seats(Make.row(1, 1, 1), Make.row(7, 7), Make.row(7, 7), Make.row(7, 7));
    y.solve();
    Check.due("of three", "1 0 | 1 0 | 0 1, 0 1 | 1 0 | 1 0", tables(y));
    y.lot(0, 1);
    y.solve();
    Check.due("of three by lot", "1 0 | 0 1 | 0 1, 0 1 | 0 1 | 1 0", tables(y));
    TwoWaySeats z = Make.seats(Make.row(2, 2), Make.row(7, 7), Make.row(7, 7));
    z.solve();
    Check.due("of one", "1 1 | 1 1, 1 1 | 1 1", tables(z));
  }

  /** "(lists by district, those of one district by party)" */
  private static void firstAndLastByDistrictThenParty() {
    TwoWaySeats x = Make.seats(
        Make.row(1, 1, 1), Make.row(10, 0, 0), Make.row(0, 10, 10), Make.row(0, 10, 10));
    x.solve();
    Check.due("differ in the second", "1 0 0 | 0 1 0 | 0 0 1, 1 0 0 | 0 0 1 | 0 1 0", tables(x));
    TwoWaySeats y = Make.seats(
        Make.row(1, 1, 1), Make.row(0, 10, 10), Make.row(10, 0, 0), Make.row(0, 10, 10));
    y.solve();
    Check.due("in first and third", "0 1 0 | 1 0 0 | 0 0 1, 0 0 1 | 1 0 0 | 0 1 0", tables(y));
    // Rings of 0 and 1, and of 2 and 3, each by itself: four tables.
    TwoWaySeats z = Make.seats(
        Make.row(1, 1, 1, 1),
        Make.row(0, 0, 10, 10), Make.row(0, 0, 10, 10),
        Make.row(10, 10, 0, 0), Make.row(10, 10, 0, 0));
    z.solve();
    Check.due("two rings", "0 0 1 0 | 0 0 0 1 | 1 0 0 0 | 0 1 0 0, "
        + "0 0 0 1 | 0 0 1 0 | 0 1 0 0 | 1 0 0 0", tables(z));
  }

  /** "A WAY goes from a district to a party, if their list has votes" (".. no way has none") */
  private static void waysToPartiesNeedVotes() {
    TwoWaySeats x = Make.seats(Make.row(3, 3), Make.row(500, 0), Make.row(500, 0));
    x.solve();
    Check.refused("no votes, no number", Check.NO_ELEMENT, () -> x.number(true, 1, false));
    Check.refused("nor below", Check.NO_ELEMENT, () -> x.number(true, 1, true));
    x.votes(0, 1, 1);
    x.solve();
    Check.due("one vote in the first", "1/1", Make.number(x, true, 1));
    x.votes(0, 1, 0);
    x.votes(1, 1, 1);
    x.solve();
    Check.due("one vote in the last", "1/1", Make.number(x, true, 1));
    x.votes(1, 1, 2);
    x.solve();
    Check.due("two votes", "2/1", Make.number(x, true, 1));
    Check.due("but no seats", "3 0 | 3 0", Make.table(x, false));
  }

  /** "and from a party to a district, if their list has seats" */
  private static void waysToDistrictsNeedSeats() {
    // Party 0 has 500/3; by one vote of district 1 that would be far above 1, but has no seat.
    TwoWaySeats x = Make.seats(Make.row(1, 1), Make.row(500, 0), Make.row(1, 200));
    x.solve();
    Check.due("no seat", "1 0 | 0 1", Make.table(x, false));
    Check.due("party 0", "500/3", Make.number(x, true, 0));
    Check.due("district 1 without a seat", "1/1", Make.number(x, false, 1));
    // With two seats in district 1 one is party 0's.
    TwoWaySeats y = Make.seats(Make.row(1, 2), Make.row(500, 0), Make.row(1, 200));
    y.solve();
    Check.due("a seat", "1 0 | 1 1", Make.table(y, false));
    Check.due("district 1 by its seat", "500/3", Make.number(y, false, 1));
    Check.due("party 1 from there", "100000/9", Make.number(y, true, 1));
  }

  private static TwoWaySeats oneParty(int seats, int otherSeats, int votes, int otherVotes) {
    TwoWaySeats x = Make.seats(Make.row(seats, otherSeats), Make.row(votes), Make.row(otherVotes));
    x.solve();
    return x;
  }

  private static String numbers(TwoWaySeats x) {
    String districts = Make.number(x, false, 0) + " " + Make.number(x, false, 1);
    return districts + " " + Make.number(x, true, 0);
  }

  /** ".. from any district to it (for a district also 1, for no way)" */
  private static void numbersOfDistrictsAreOneAtLeast() {
    // Along the ways to the other district it is votes / 3 * 3 / other votes.
    Check.due("7/7", "1/1 1/1 7/3", numbers(oneParty(1, 2, 7, 7)));
    Check.due("8/7", "1/1 8/7 8/3", numbers(oneParty(1, 2, 8, 7)));
    Check.due("6/7 is less than 1", "1/1 1/1 2/1", numbers(oneParty(1, 2, 6, 7)));
    Check.due("500/499", "1/1 500/499 500/3", numbers(oneParty(1, 2, 500, 499)));
    Check.due("499/500", "1/1 1/1 499/3", numbers(oneParty(1, 2, 499, 500)));
    Check.due("to the first district", "8/7 1/1 8/3", numbers(oneParty(2, 1, 7, 8)));
    Check.due("to the first, 6/7", "1/1 1/1 2/1", numbers(oneParty(2, 1, 7, 6)));
    Check.due("500", "1/1 500/1 500/3", numbers(oneParty(1, 2, 500, 1)));
  }

  /** "the greatest product of the factors" */
  private static void numbersAreTheGreatest() {
    Check.due("9/5 is less than 2", "1/1 1/1 2/1", numbers(oneParty(1, 2, 6, 9)));
    Check.due("10/5 is 2", "1/1 1/1 2/1", numbers(oneParty(1, 2, 6, 10)));
    Check.due("11/5 is more", "1/1 1/1 11/5", numbers(oneParty(1, 2, 6, 11)));
    Check.due("20 seats", "1/1 1/1 500/21", numbers(oneParty(10, 10, 500, 500)));
  }

  /** ".. of ways that go on one from another": up to seven, through all districts and parties. */
  private static void numbersOfLongWays() {
    TwoWaySeats x = Make.seats(
        Make.row(1, 6, 6, 7),
        Make.row(397, 0, 0, 0), Make.row(211, 401, 0, 0),
        Make.row(0, 199, 409, 0), Make.row(0, 0, 193, 197));
    Check.due("there is no ring", true, x.solve());
    Check.due("the only table", "1 0 0 0 | 5 1 0 0 | 0 5 1 0 | 0 0 5 2", Make.table(x, false));
    Check.due("no way", "1/1", Make.number(x, false, 0));
    Check.due("one, 397/3", "397/3", Make.number(x, true, 0));
    Check.due("two, times 9/211", "1191/211", Make.number(x, false, 1));
    Check.due("three, times 401/3", "159197/211", Make.number(x, true, 1));
    Check.due("four, times 9/199", "1432773/41989", Make.number(x, false, 2));
    Check.due("five, times 409/3", "195334719/41989", Make.number(x, true, 2));
    Check.due("six, times 9/193", "1758012471/8103877", Make.number(x, false, 3));
    Check.due("seven, times 197/5", "346328456787/40519385", Make.number(x, true, 3));
  }

  /** Party 1 is reached from district 0 at once and by three ways; its seats are in district 2. */
  private static TwoWaySeats twoWays(int a, int b, int c, int d) {
    TwoWaySeats x = Make.seats(Make.row(1, 2, 3), Make.row(a, b), Make.row(c, d), Make.row(0, 1));
    x.solve();
    Check.due("the only table", "1 0 | 2 0 | 0 3", Make.table(x, false));
    return x;
  }

  /** "the greatest product": by three ways it is 1/249000 more, the same, or 1/249001 less. */
  private static void numbersLieClose() {
    TwoWaySeats more = twoWays(499, 500, 498, 499);
    Check.due("more by three ways", "249001/498", Make.number(more, true, 1));
    Check.due("and on to district 2", "1245005/498", Make.number(more, false, 2));
    TwoWaySeats same = twoWays(500, 500, 499, 499);
    Check.due("the same", "500/1", Make.number(same, true, 1));
    Check.due("and on to district 2", "2500/1", Make.number(same, false, 2));
    TwoWaySeats less = twoWays(500, 499, 499, 498);
    Check.due("more by one way", "499/1", Make.number(less, true, 1));
    Check.due("and on to district 2", "2495/1", Make.number(less, false, 2));
  }

  /** "(So votes times the district's number, divided by the party's, are from 2 * s - 1 to ..)" */
  private static void numbersKeepTheirPromise() {
    int[] sizes = {4, 6, 3, 7};
    int atLeast = 0;
    int atMost = 0;
    for (int k = 0; k < 200; k++) {
      int[][] votes = new int[4][4];
      for (int j = 0; j < 16; j++) {
        votes[j / 4][j % 4] = (k * 7919 + j * j * 104729 + k * j * 31) % 501;
      }
      TwoWaySeats x = Make.seats(sizes, votes);
      Check.due("a table of all lists", true, x.solve());
      for (int j = 0; j < 16; j++) {
        int s = x.seats(j / 4, j % 4, false);
        int low = compared(x, j / 4, j % 4, votes[j / 4][j % 4], 2 * s - 1);
        int high = compared(x, j / 4, j % 4, votes[j / 4][j % 4], 2 * s + 1);
        Check.due(k + ": from 2 * s - 1", true, low >= 0 || votes[j / 4][j % 4] == 0);
        Check.due(k + ": to 2 * s + 1", true, high <= 0);
        atLeast += low == 0 ? 1 : 0;
        atMost += high == 0 ? 1 : 0;
      }
    }
    Check.due("both bounds were met", true, atLeast > 0 && atMost > 0);
  }

  /** How votes * district's number / party's number compares with a bound. */
  private static int compared(TwoWaySeats x, int d, int p, int votes, int bound) {
    BigInteger one = BigInteger.valueOf(votes)
        .multiply(BigInteger.valueOf(x.number(false, d, false)))
        .multiply(BigInteger.valueOf(x.number(true, p, true)));
    BigInteger other = BigInteger.valueOf(bound)
        .multiply(BigInteger.valueOf(x.number(false, d, true)))
        .multiply(BigInteger.valueOf(x.number(true, p, false)));
    return one.compareTo(other);
  }

  private static String solvedBlock(TwoWaySeats x) {
    Check.due("no table", false, x.solve());
    return Make.block(x);
  }

  /** "of all sets of districts that have more seats together than the shares of all parties .." */
  private static void blockByOneSeat() {
    for (int seats = 1; seats <= 10; seats++) {
      // Party 0 has as many seats as its own district, in which it is alone.
      TwoWaySeats x = Make.seats(Make.row(seats, 10), Make.row(10 * seats, 0), Make.row(0, 100));
      Check.due("just as many", seats + " 10", Make.shares(x));
      Check.due("just as many fit", true, x.solve());
      Check.refused("no block", Check.STATE, () -> x.blocks(false, 0));
      TwoWaySeats y = Make.seats(Make.row(seats + 1, 9), Make.row(10 * seats, 0), Make.row(0, 100));
      Check.due("one too few", seats + " 10", Make.shares(y));
      Check.due("one more does not fit", "b- b-", solvedBlock(y));
      Check.due("its share is shown still", seats, y.share(0));
    }
    TwoWaySeats z = Make.seats(Make.row(20), Make.row(1));
    Check.due("all districts have just what all parties have", true, z.solve());
  }

  /** The block has one district, or two, or three: never all, as all the shares are all seats. */
  private static void blockOfEachSize() {
    for (int set = 1; set < 15; set++) {
      int size = Integer.bitCount(set);
      // Only party 0 has votes in these districts, one or two seats less than they have.
      TwoWaySeats x = Make.seats(Make.row(2, 2, 2, 2), Make.row(0, 0));
      int own = size == 1 ? 10 : size == 2 ? 20 : 50;
      int rest = size == 1 ? 70 : size == 2 ? 60 : 30;
      StringBuilder due = new StringBuilder();
      for (int d = 0; d < 4; d++) {
        boolean in = (set >> d & 1) != 0;
        int part = in ? own : rest;
        x.votes(d, in ? 0 : 1, part / (in ? size : 4 - size));
        due.append(in ? "b" : "-");
      }
      Check.due("set " + set, due + " b-", solvedBlock(x));
    }
  }

  /** "that with the least sum of 1 << district" */
  private static void blockOfTheLeastSum() {
    for (int set = 1; set < 15; set++) {
      TwoWaySeats x = Make.seats(Make.row(1, 1, 1, 1), Make.row(0));
      for (int d = 0; d < 4; d++) {
        x.votes(d, 0, (set >> d & 1) != 0 ? 0 : 9);
      }
      int least = Integer.numberOfTrailingZeros(set);
      String due = "---- -".substring(0, least) + "b" + "---- -".substring(least + 1);
      Check.due("no votes in set " + set, due, solvedBlock(x));
    }
    // Both 0 and 1 (3), and 2 alone (4), or 3 alone (8).
    TwoWaySeats y = Make.seats(
        Make.row(2, 2, 2, 2), Make.row(10, 0), Make.row(10, 0), Make.row(0, 0), Make.row(0, 60));
    Check.due("3 is less than 4", "bb-- b-", solvedBlock(y));
    TwoWaySeats z = Make.seats(
        Make.row(2, 2, 2, 2), Make.row(10, 0), Make.row(0, 0), Make.row(10, 0), Make.row(0, 60));
    Check.due("2 is less than 5", "-b-- --", solvedBlock(z));
    TwoWaySeats w = Make.seats(
        Make.row(2, 2, 2, 2), Make.row(0, 60), Make.row(10, 0), Make.row(10, 0), Make.row(0, 0));
    Check.due("6 is less than 8", "-bb- b-", solvedBlock(w));
  }

  /** "and those parties": all that have a list with votes in one of these districts. */
  private static void partiesOfTheBlock() {
    TwoWaySeats x = Make.seats(Make.row(3, 4), Make.row(2, 1, 0, 0), Make.row(0, 0, 500, 1));
    Check.due("shares", "0 0 7 0", Make.shares(x));
    Check.due("without a share too", "b- bb--", solvedBlock(x));
    x.threshold(2);
    Check.due("not those out", "b- b---", solvedBlock(x));
    x.threshold(4);
    Check.due("nobody left", "b- ----", solvedBlock(x));
    x.threshold(0);
    x.votes(0, 2, 1);
    Check.due("one vote more makes it fit", true, x.solve());
    TwoWaySeats y = Make.seats(
        Make.row(2, 2, 2, 2),
        Make.row(10, 20, 0, 0), Make.row(10, 0, 20, 0),
        Make.row(0, 0, 0, 50), Make.row(0, 0, 0, 50));
    Check.due("shares", "1 1 1 5", Make.shares(y));
    Check.due("of one district or the other", "bb-- bbb-", solvedBlock(y));
  }
}
