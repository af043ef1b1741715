/**
 * The sentences of promises 1 to 17: each has its own test, at its boundary and on both sides.
 * What the terms mean is in EdgesOfTermsTest and EdgesOfTablesTest, what ends what in
 * EdgesOfEndingTest.
 */
public final class EdgesOfPromisesTest {
  private static final int[] INDEXES = {
    Integer.MIN_VALUE, -4, -2, -1, 0, 1, 2, 3, 4, 5, 8, 16, 32, Integer.MAX_VALUE
  };

  private interface Call {
    Object at(int k);
  }

  public static void main(String[] args) {
    newObject();
    districtNumbers();
    districtRefusesSeats();
    districtRefusesAFifth();
    partyNumbers();
    votesFromNowOn();
    votesOfLists();
    votesOfAmounts();
    weighedFromNowOn();
    thresholdFromNowOn();
    thresholdOfAmounts();
    lotPositions();
    lotParties();
    lotMoves();
    lotKeepsWhatItHas();
    counts();
    shareOfParties();
    tiedOfParties();
    solveAnswers();
    seatsOfLists();
    seatsNotSolved();
    uniqueOrNot();
    numberOfPlaces();
    numberInLowestTerms();
    numberIsNone();
    blocksOfPlaces();
    blocksNotSolved();
    proposeOfLists();
    proposeOfAmounts();
    proposalAtFirst();
    proposalFromNowOn();
    judgesEach();
    judgesTheLeast();
    judgesWhatIsNow();
    Check.end();
  }

  /** So many of both, all lists with 9 votes, and not solved. */
  private static TwoWaySeats even(int districts, int parties) {
    TwoWaySeats x = new TwoWaySeats();
    for (int d = 0; d < districts; d++) {
      x.district(1 + d);
    }
    for (int p = 0; p < parties; p++) {
      x.party();
      for (int d = 0; d < districts; d++) {
        x.votes(d, p, 9);
      }
    }
    return x;
  }

  /** Just the indexes 0 .. count - 1 are there. */
  private static void indexes(String what, int count, Call call) {
    for (int k : INDEXES) {
      String answer = Check.outcome(() -> call.at(k));
      boolean there = !answer.equals("throws IndexOutOfBoundsException");
      Check.due(what + " at " + k + " of " + count + ": " + answer, k >= 0 && k < count, there);
      Check.due(what + " at " + k + " throws else", false, there && answer.startsWith("throws"));
    }
  }

  /** Promise 1: "No districts, no parties, nothing solved." */
  private static void newObject() {
    TwoWaySeats x = new TwoWaySeats();
    Check.due("1: everything", "0 by 0, , , throws IllegalStateException, , , "
        + "throws IllegalStateException, ,  ", Make.everything(x));
    for (int k : INDEXES) {
      Check.refused("1: share", Check.STATE, () -> x.share(k));
      Check.refused("1: tied", Check.STATE, () -> x.tied(k));
      Check.refused("1: seats", Check.STATE, () -> x.seats(k, k, false));
      Check.refused("1: number", Check.STATE, () -> x.number(true, k, false));
      Check.refused("1: blocks", Check.STATE, () -> x.blocks(false, k));
      Check.refused("1: votes", Check.INDEX, () -> x.votes(k, 0, 1));
      Check.refused("1: propose", Check.INDEX, () -> x.propose(k, 0, 1));
      Check.refused("1: lot", Check.INDEX, () -> x.lot(0, k));
    }
    Check.refused("1: solve", Check.STATE, () -> x.solve());
    Check.refused("1: unique", Check.STATE, () -> x.unique());
    TwoWaySeats used = even(4, 4);
    used.solve();
    Check.due("1: a new one beside a used one", 0, new TwoWaySeats().count(false));
    Check.due("1: a used one beside a new one", 4, used.count(false));
    Check.due("1: still solved", false, used.unique());
  }

  /** Promise 2: "A new district: its number." */
  private static void districtNumbers() {
    TwoWaySeats x = new TwoWaySeats();
    Check.due("2: the first", 0, x.district(2));
    Check.refused("2: refused between", Check.ARGUMENT, () -> x.district(0));
    Check.due("2: the second", 1, x.district(3));
    x.party();
    Check.due("2: the third, after a party", 2, x.district(4));
    Check.due("2: the fourth", 3, x.district(5));
    x.votes(3, 0, 1);
    Check.due("2: all their seats", 14, x.share(0));
    Check.due("2: of another object", 0, new TwoWaySeats().district(1));
  }

  /** Promise 2: "IllegalArgumentException when seats is not 1 .. 20, or there would be more .." */
  private static void districtRefusesSeats() {
    TwoWaySeats x = new TwoWaySeats();
    for (int seats : new int[] {Integer.MIN_VALUE, -20, -1, 0, 21, 22, Integer.MAX_VALUE}) {
      Check.refused("2: " + seats + " seats", Check.ARGUMENT, () -> x.district(seats));
    }
    Check.due("2: one seat", 0, x.district(1));
    for (int seats : new int[] {Integer.MIN_VALUE, -1, 0, 20, 21, Integer.MAX_VALUE}) {
      Check.refused("2: " + seats + " seats more", Check.ARGUMENT, () -> x.district(seats));
    }
    Check.due("2: 19 seats more", 1, x.district(19));
    Check.refused("2: one seat more", Check.ARGUMENT, () -> x.district(1));
    Check.due("2: two districts", 2, x.count(false));
    TwoWaySeats y = new TwoWaySeats();
    Check.due("2: 20 seats", 0, y.district(20));
    Check.refused("2: and one", Check.ARGUMENT, () -> y.district(1));
  }

  /** Promise 2: "UnsupportedOperationException when there are four." */
  private static void districtRefusesAFifth() {
    TwoWaySeats x = even(3, 1);
    Check.due("2: a fourth with 14", 3, x.district(14));
    Check.refused("2: a fifth with 1, too many together", Check.ARGUMENT, () -> x.district(1));
    TwoWaySeats y = even(4, 1);
    for (int seats = 1; seats <= 10; seats++) {
      int n = seats;
      Check.refused("2: a fifth with " + n, Check.UNSUPPORTED, () -> y.district(n));
    }
    Check.refused("2: a fifth with 11", Check.ARGUMENT, () -> y.district(11));
    Check.due("2: its seats are not there", 10, y.share(0));
  }

  /** Promise 3: "A new party: its number. UnsupportedOperationException when there are four." */
  private static void partyNumbers() {
    TwoWaySeats x = new TwoWaySeats();
    Check.due("3: the first", 0, x.party());
    x.district(3);
    Check.due("3: the second, after a district", 1, x.party());
    Check.due("3: the third", 2, x.party());
    Check.due("3: the fourth", 3, x.party());
    Check.refused("3: a fifth", Check.UNSUPPORTED, () -> x.party());
    Check.refused("3: a fifth again", Check.UNSUPPORTED, () -> x.party());
    x.votes(0, 3, 1);
    Check.due("3: the fourth is the last", "0 0 0 3", Make.shares(x));
    Check.refused("3: there is no fifth", Check.INDEX, () -> x.votes(0, 4, 1));
    Check.due("3: of another object", 0, new TwoWaySeats().party());
  }

  /** Promise 4: "A list has n votes from now on." */
  private static void votesFromNowOn() {
    TwoWaySeats x = Make.seats(Make.row(10), Make.row(40, 60));
    Check.due("4: 40 and 60", "4 6", Make.shares(x));
    x.votes(0, 0, 60);
    Check.due("4: not added", "5 5", Make.shares(x));
    x.votes(0, 0, 0);
    Check.due("4: taken away", "0 10", Make.shares(x));
    x.votes(0, 0, 500);
    Check.due("4: the most", "9 1", Make.shares(x));
    x.votes(0, 0, 40);
    Check.due("4: as at first", "4 6", Make.shares(x));
  }

  /** Promise 4: "IndexOutOfBoundsException when there is no such district or party" */
  private static void votesOfLists() {
    for (int districts = 0; districts <= 4; districts++) {
      for (int parties = 0; parties <= 4; parties++) {
        TwoWaySeats x = even(districts, parties);
        int ofDistricts = parties > 0 ? districts : 0;
        int ofParties = districts > 0 ? parties : 0;
        indexes("4: district", ofDistricts, k -> { x.votes(k, 0, 5); return "-"; });
        indexes("4: party", ofParties, k -> { x.votes(0, k, 6); return "-"; });
        int d = districts - 1;
        int p = parties - 1;
        indexes("4: and last party", ofDistricts, k -> { x.votes(k, p, 7); return "-"; });
        indexes("4: and last district", ofParties, k -> { x.votes(d, k, 8); return "-"; });
      }
    }
  }

  /** Promise 4: "IllegalArgumentException when n is not 0 .. 500." */
  private static void votesOfAmounts() {
    TwoWaySeats x = Make.seats(Make.row(1), Make.row(250, 1));
    for (int n : new int[] {Integer.MIN_VALUE, -500, -1, 501, 1000, Integer.MAX_VALUE}) {
      Check.refused("4: " + n + " votes", Check.ARGUMENT, () -> x.votes(0, 1, n));
      Check.due("4: after " + n, "1 0", Make.shares(x));
    }
    for (int n : new int[] {0, 1, 249, 250}) {
      x.votes(0, 1, n);
      Check.due("4: " + n + " votes", "1 0", Make.shares(x));
    }
    for (int n : new int[] {251, 499, 500}) {
      x.votes(0, 1, n);
      Check.due("4: " + n + " votes", "0 1", Make.shares(x));
    }
  }

  /** Promise 5: "Votes are weighed from now on, or not." */
  private static void weighedFromNowOn() {
    TwoWaySeats x = Make.seats(Make.row(12, 2), Make.row(120, 0), Make.row(0, 100));
    x.weigh(false);
    Check.due("5: not, as at first", "8 6", Make.shares(x));
    x.weigh(true);
    Check.due("5: weighed", "2 12", Make.shares(x));
    x.weigh(true);
    Check.due("5: weighed twice is weighed", "2 12", Make.shares(x));
    x.votes(0, 0, 240);
    Check.due("5: and for new votes", "4 10", Make.shares(x));
    x.district(1);
    Check.due("5: and for a new district", "4 11", Make.shares(x));
    x.weigh(false);
    Check.due("5: not any more", "11 4", Make.shares(x));
    TwoWaySeats y = new TwoWaySeats();
    y.weigh(true);
    Check.due("5: before there is a district", 0, y.district(4));
    y.party();
    y.votes(0, 0, 1);
    Check.due("5: a quarter of a vote", 4, y.share(0));
  }

  /** Promise 6: "The threshold from now on." */
  private static void thresholdFromNowOn() {
    TwoWaySeats x = Make.seats(Make.row(10), Make.row(70, 30));
    x.threshold(300);
    Check.due("6: 300", "7 3", Make.shares(x));
    x.threshold(301);
    Check.due("6: 301", "10 0", Make.shares(x));
    x.votes(0, 1, 31);
    Check.due("6: 31 of 101 are 306", "7 3", Make.shares(x));
    x.threshold(700);
    Check.refused("6: 70 of 101 are 693", Check.STATE, () -> x.share(0));
    x.threshold(693);
    Check.due("6: 693", "10 0", Make.shares(x));
    x.threshold(0);
    Check.due("6: none", "7 3", Make.shares(x));
    TwoWaySeats y = new TwoWaySeats();
    y.threshold(500);
    y.district(10);
    y.party();
    y.party();
    y.votes(0, 0, 51);
    y.votes(0, 1, 49);
    Check.due("6: before there was any", "10 0", Make.shares(y));
  }

  /** Promise 6: "IllegalArgumentException when it is not 0 .. 1000." */
  private static void thresholdOfAmounts() {
    TwoWaySeats x = Make.seats(Make.row(10), Make.row(70, 30));
    for (int t : new int[] {0, 1, 299, 300}) {
      x.threshold(t);
      Check.due("6: threshold " + t, "7 3", Make.shares(x));
    }
    x.threshold(301);
    for (int t : new int[] {Integer.MIN_VALUE, -1000, -1, 1001, 1002, Integer.MAX_VALUE}) {
      Check.refused("6: threshold " + t, Check.ARGUMENT, () -> x.threshold(t));
      Check.due("6: 301 still", "10 0", Make.shares(x));
    }
    x.threshold(700);
    Check.due("6: threshold 700", "10 0", Make.shares(x));
    for (int t : new int[] {701, 999, 1000}) {
      x.threshold(t);
      Check.refused("6: threshold " + t, Check.STATE, () -> x.share(0));
    }
  }

  /** Promise 7: "IndexOutOfBoundsException when there is no such position" */
  private static void lotPositions() {
    for (int parties = 0; parties <= 4; parties++) {
      TwoWaySeats x = even(1, parties);
      indexes("7: position", parties > 0 ? 4 : 0, k -> { x.lot(k, 0); return "-"; });
      TwoWaySeats y = even(0, parties);
      int last = parties - 1;
      indexes("7: without district", parties > 0 ? 4 : 0, k -> { y.lot(k, last); return "-"; });
    }
  }

  /** Promise 7: "IndexOutOfBoundsException when there is no such .. party" */
  private static void lotParties() {
    for (int parties = 0; parties <= 4; parties++) {
      TwoWaySeats x = even(1, parties);
      indexes("7: party", parties, k -> { x.lot(0, k); return "-"; });
      indexes("7: party at 3", parties, k -> { x.lot(3, k); return "-"; });
    }
    TwoWaySeats x = even(1, 2);
    Check.refused("7: not there yet", Check.INDEX, () -> x.lot(0, 2));
    x.party();
    x.votes(0, 2, 9);
    Check.due("7: the refused lot is not kept for it", "1 0 0", Make.shares(x));
    x.lot(0, 2);
    Check.due("7: now it is there", "0 0 1", Make.shares(x));
  }

  /** Promise 7: "the party that had it has none any more, nor has the party the one that it had" */
  private static void lotMoves() {
    TwoWaySeats x = even(1, 4);
    x.lot(0, 3);
    x.lot(0, 2);
    Check.due("7: 2 has taken it", "0 0 1 0", Make.shares(x));
    x.votes(0, 2, 8);
    Check.due("7: 3 has none any more", "1 0 0 0", Make.shares(x));
    x.votes(0, 2, 9);
    x.lot(3, 2);
    x.lot(2, 1);
    Check.due("7: 2 has not its old one", "0 1 0 0", Make.shares(x));
    x.lot(0, 3);
    Check.due("7: that is free", "0 0 0 1", Make.shares(x));
    x.lot(2, 3);
    Check.due("7: 3 at 2, 1 with none, 2 at 3", "0 0 0 1", Make.shares(x));
    x.votes(0, 3, 8);
    Check.due("7: then 2", "0 0 1 0", Make.shares(x));
    x.votes(0, 2, 8);
    Check.due("7: then 0, before 1 that has none", "1 0 0 0", Make.shares(x));
  }

  /** Promise 7: "A party has a position from now on": also one that it has. */
  private static void lotKeepsWhatItHas() {
    TwoWaySeats x = even(1, 3);
    x.lot(1, 2);
    x.lot(1, 2);
    Check.due("7: told twice", "0 0 1", Make.shares(x));
    x.lot(2, 1);
    Check.due("7: 1 before 2", "0 0 1", Make.shares(x));
    x.lot(0, 1);
    Check.due("7: 0 before 1", "0 1 0", Make.shares(x));
    x.weigh(true);
    x.district(1);
    x.party();
    Check.due("7: it stays", "0 1 1 0", Make.shares(x));
  }

  /** Promise 8: "How many districts (or parties) there are." */
  private static void counts() {
    for (int districts = 0; districts <= 4; districts++) {
      for (int parties = 0; parties <= 4; parties++) {
        TwoWaySeats x = even(districts, parties);
        Check.due("8: districts", districts, x.count(false));
        Check.due("8: parties", parties, x.count(true));
        if (districts == 4) {
          Check.refused("8: a fifth district", Check.UNSUPPORTED, () -> x.district(1));
        }
        if (parties == 4) {
          Check.refused("8: a fifth party", Check.UNSUPPORTED, () -> x.party());
        }
        Check.refused("8: a wrong district", Check.ARGUMENT, () -> x.district(0));
        Check.due("8: districts still", districts, x.count(false));
        Check.due("8: parties still", parties, x.count(true));
      }
    }
  }

  /** Promise 9: share, and "IndexOutOfBoundsException when there is no such party" */
  private static void shareOfParties() {
    for (int parties = 1; parties <= 4; parties++) {
      TwoWaySeats x = even(4, parties);
      indexes("9: party", parties, k -> x.share(k));
      TwoWaySeats y = even(0, parties);
      TwoWaySeats z = Make.seats(Make.row(20), new int[parties]);
      for (int k : INDEXES) {
        Check.refused("9: no district", Check.STATE, () -> y.share(k));
        Check.refused("9: no votes", Check.STATE, () -> z.share(k));
      }
      z.votes(0, parties - 1, 1);
      Check.due("9: all", 20, z.share(parties - 1));
      Check.due("9: all or none", parties == 1 ? 20 : 0, z.share(0));
    }
  }

  /** Promise 10: tied, and "IndexOutOfBoundsException when there is no such party" */
  private static void tiedOfParties() {
    for (int parties = 1; parties <= 4; parties++) {
      TwoWaySeats x = even(1, parties);
      indexes("10: party", parties, k -> x.tied(k));
      Check.due("10: tied with another", parties > 1, x.tied(0));
      Check.due("10: tied, the last", parties > 1, x.tied(parties - 1));
      TwoWaySeats y = even(0, parties);
      TwoWaySeats z = Make.seats(Make.row(20), new int[parties]);
      for (int k : INDEXES) {
        Check.refused("10: no district", Check.STATE, () -> y.tied(k));
        Check.refused("10: no votes", Check.STATE, () -> z.tied(k));
      }
    }
  }

  /** Promise 11: "Solves it: whether there is a table that obeys." */
  private static void solveAnswers() {
    TwoWaySeats x = Make.seats(Make.row(1, 1), Make.row(9, 0), Make.row(0, 0));
    Check.due("11: a district without votes", false, x.solve());
    Check.due("11: again", false, x.solve());
    x.votes(1, 0, 1);
    Check.due("11: one vote", true, x.solve());
    Check.due("11: and again", true, x.solve());
    x.votes(0, 0, 0);
    Check.due("11: the other without", false, x.solve());
    x.votes(1, 0, 0);
    Check.refused("11: no votes", Check.STATE, () -> x.solve());
    x.votes(0, 1, 1);
    x.votes(1, 1, 1);
    Check.due("11: by the other party", true, x.solve());
    for (int districts = 1; districts <= 4; districts++) {
      for (int parties = 1; parties <= 4; parties++) {
        Check.due("11: all alike", true, even(districts, parties).solve());
      }
    }
  }

  /** Promise 12: "IndexOutOfBoundsException when there is no such district or party." */
  private static void seatsOfLists() {
    for (int districts = 1; districts <= 4; districts++) {
      for (int parties = 1; parties <= 4; parties++) {
        TwoWaySeats x = even(districts, parties);
        x.solve();
        int d = districts - 1;
        int p = parties - 1;
        indexes("12: district", districts, k -> x.seats(k, 0, false));
        indexes("12: district, last", districts, k -> x.seats(k, p, true));
        indexes("12: party", parties, k -> x.seats(0, k, false));
        indexes("12: party, last", parties, k -> x.seats(d, k, true));
      }
    }
  }

  /** Promise 12: "IllegalStateException when it is not SOLVED, or there is no table that obeys" */
  private static void seatsNotSolved() {
    TwoWaySeats x = Make.seats(Make.row(1, 1), Make.row(9, 0), Make.row(1, 0));
    Check.refused("12: not solved", Check.STATE, () -> x.seats(0, 0, false));
    x.share(0);
    x.judge();
    Check.refused("12: nor by share or judge", Check.STATE, () -> x.seats(0, 0, true));
    x.solve();
    Check.due("12: solved", "1 0 | 1 0", Make.table(x, false));
    x.votes(1, 0, 0);
    Check.refused("12: ended", Check.STATE, () -> x.seats(0, 0, false));
    x.solve();
    Check.refused("12: no table", Check.STATE, () -> x.seats(0, 0, false));
    Check.refused("12: no last table", Check.STATE, () -> x.seats(1, 1, true));
    x.votes(1, 1, 5);
    Check.refused("12: not solved again", Check.STATE, () -> x.seats(0, 0, false));
    x.solve();
    Check.due("12: solved again", "1 0 | 0 1", Make.table(x, true));
  }

  /** Promise 13: "Whether just one table obeys. IllegalStateException as for seats." */
  private static void uniqueOrNot() {
    TwoWaySeats x = Make.seats(Make.row(1, 1), Make.row(9, 9), Make.row(9, 9));
    Check.refused("13: not solved", Check.STATE, () -> x.unique());
    x.solve();
    Check.due("13: two", false, x.unique());
    x.votes(1, 1, 10);
    Check.refused("13: ended", Check.STATE, () -> x.unique());
    x.solve();
    Check.due("13: one", true, x.unique());
    x.votes(1, 1, 8);
    x.solve();
    Check.due("13: the other", true, x.unique());
    x.votes(1, 1, 0);
    x.votes(1, 0, 0);
    x.solve();
    Check.refused("13: none", Check.STATE, () -> x.unique());
    // The last list of all: the two tables differ only in districts 2 and 3, parties 2 and 3.
    TwoWaySeats y = Make.seats(
        Make.row(1, 1, 1, 1), Make.row(9, 0, 0, 0), Make.row(0, 9, 0, 0),
        Make.row(0, 0, 9, 9), Make.row(0, 0, 9, 9));
    y.solve();
    Check.due("13: two by the last lists", false, y.unique());
    y.votes(3, 3, 10);
    y.solve();
    Check.due("13: one by the last list", true, y.unique());
  }

  /** Promise 14: "IllegalStateException as for seats; IndexOutOfBoundsException when .. no such" */
  private static void numberOfPlaces() {
    for (int districts = 1; districts <= 4; districts++) {
      for (int parties = 1; parties <= 4; parties++) {
        TwoWaySeats x = even(districts, parties);
        for (int k : INDEXES) {
          Check.refused("14: not solved", Check.STATE, () -> x.number(false, k, false));
          Check.refused("14: not solved, party", Check.STATE, () -> x.number(true, k, true));
        }
        x.solve();
        indexes("14: district", districts, k -> x.number(false, k, false));
        indexes("14: district, below", districts, k -> x.number(false, k, true));
        indexes("14: party", parties, k -> x.number(true, k, false));
        indexes("14: party, below", parties, k -> x.number(true, k, true));
        x.threshold(0);
        Check.refused("14: ended", Check.STATE, () -> x.number(false, 0, false));
      }
    }
  }

  /** Promise 14: "as a fraction in its lowest terms: what stands above, or below" */
  private static void numberInLowestTerms() {
    // Seven seats of one party: its number is votes / 15.
    int[] votes = {1, 3, 5, 6, 7, 15, 16, 30, 45, 499, 500};
    int[] above = {1, 1, 1, 2, 7, 1, 16, 2, 3, 499, 100};
    int[] below = {15, 5, 3, 5, 15, 1, 15, 1, 1, 15, 3};
    for (int k = 0; k < votes.length; k++) {
      TwoWaySeats x = Make.seats(Make.row(7), Make.row(votes[k]));
      x.solve();
      Check.due("14: above of " + votes[k] + "/15", above[k], x.number(true, 0, false));
      Check.due("14: below of " + votes[k] + "/15", below[k], x.number(true, 0, true));
      Check.due("14: its district above", 1, x.number(false, 0, false));
      Check.due("14: its district below", 1, x.number(false, 0, true));
    }
  }

  /** Promise 14: "NoSuchElementException when it has none." */
  private static void numberIsNone() {
    for (int p = 0; p < 4; p++) {
      TwoWaySeats x = even(2, 4);
      int none = p;
      x.votes(0, p, 0);
      x.solve();
      Check.due("14: by one list", true, x.number(true, p, false) > 0);
      x.votes(1, p, 0);
      x.solve();
      Check.refused("14: by none", Check.NO_ELEMENT, () -> x.number(true, none, false));
      Check.refused("14: by none, below", Check.NO_ELEMENT, () -> x.number(true, none, true));
      Check.due("14: the next has one", true, x.number(true, (p + 1) % 4, true) > 0);
      x.votes(1, p, 1);
      x.solve();
      Check.due("14: by one vote", true, x.number(true, p, false) > 0);
    }
    TwoWaySeats y = even(2, 3);
    y.solve();
    Check.refused("14: no party is no number to seek", Check.INDEX, () -> y.number(true, 3, false));
    y.party();
    y.solve();
    Check.refused("14: now there is, with none", Check.NO_ELEMENT, () -> y.number(true, 3, false));
  }

  /** Promise 15: "Whether a district (or party) is in THE BLOCK." */
  private static void blocksOfPlaces() {
    for (int districts = 2; districts <= 4; districts++) {
      for (int parties = 1; parties <= 4; parties++) {
        TwoWaySeats x = even(districts, parties);
        for (int p = 0; p < parties; p++) {
          x.votes(districts - 1, p, 0);
        }
        Check.due("15: no table", false, x.solve());
        indexes("15: district", districts, k -> x.blocks(false, k));
        indexes("15: party", parties, k -> x.blocks(true, k));
        for (int d = 0; d < districts; d++) {
          Check.due("15: the last one alone", d == districts - 1, x.blocks(false, d));
        }
        for (int p = 0; p < parties; p++) {
          Check.due("15: no party", false, x.blocks(true, p));
        }
      }
    }
  }

  /** Promise 15: "IllegalStateException when it is not SOLVED, or a table fits" */
  private static void blocksNotSolved() {
    TwoWaySeats x = Make.seats(Make.row(1, 1), Make.row(9, 0), Make.row(0, 0));
    for (int k : INDEXES) {
      Check.refused("15: not solved", Check.STATE, () -> x.blocks(false, k));
      Check.refused("15: not solved, party", Check.STATE, () -> x.blocks(true, k));
    }
    x.solve();
    Check.due("15: solved", "-b --", Make.block(x));
    x.votes(1, 0, 1);
    Check.refused("15: ended", Check.STATE, () -> x.blocks(false, 0));
    x.solve();
    for (int k : INDEXES) {
      Check.refused("15: a table fits", Check.STATE, () -> x.blocks(false, k));
      Check.refused("15: a table fits, party", Check.STATE, () -> x.blocks(true, k));
    }
    x.votes(0, 0, 0);
    x.solve();
    Check.due("15: solved again", "b- --", Make.block(x));
  }

  /** Promise 16: "IndexOutOfBoundsException when there is no such district or party" */
  private static void proposeOfLists() {
    for (int districts = 0; districts <= 4; districts++) {
      for (int parties = 0; parties <= 4; parties++) {
        TwoWaySeats x = even(districts, parties);
        int ofDistricts = parties > 0 ? districts : 0;
        int ofParties = districts > 0 ? parties : 0;
        int d = districts - 1;
        int p = parties - 1;
        indexes("16: district", ofDistricts, k -> { x.propose(k, 0, 0); return "-"; });
        indexes("16: party", ofParties, k -> { x.propose(0, k, 20); return "-"; });
        indexes("16: and last party", ofDistricts, k -> { x.propose(k, p, 1); return "-"; });
        indexes("16: and last district", ofParties, k -> { x.propose(d, k, 2); return "-"; });
      }
    }
  }

  /** Promise 16: "IllegalArgumentException when n is not 0 .. 20." */
  private static void proposeOfAmounts() {
    for (int seats = 1; seats <= 20; seats++) {
      TwoWaySeats x = Make.seats(Make.row(seats), Make.row(1));
      for (int n : new int[] {Integer.MIN_VALUE, -20, -1, 21, 22, Integer.MAX_VALUE}) {
        Check.refused("16: " + n, Check.ARGUMENT, () -> x.propose(0, 0, n));
      }
      for (int n = 0; n <= 20; n++) {
        x.propose(0, 0, n);
        Check.due("16: " + n + " of " + seats, n == seats ? 0 : 2, x.judge());
      }
      x.propose(0, 0, seats);
      Check.refused("16: 21", Check.ARGUMENT, () -> x.propose(0, 0, 21));
      Check.refused("16: -1", Check.ARGUMENT, () -> x.propose(0, 0, -1));
      Check.due("16: as before", 0, x.judge());
    }
  }

  /** Promise 16: "The PROPOSAL, a table of its own, at first without seats" */
  private static void proposalAtFirst() {
    for (int k = 0; k < 16; k++) {
      TwoWaySeats x = Make.seats(Make.row(5, 5, 5, 5), Make.row(0, 0, 0, 0));
      x.votes(k / 4, (k + 1) % 4, 9);
      Check.due("16: without seats there is no 1", 2, x.judge());
      x.propose(k / 4, k % 4, 1);
      Check.due("16: with one there is", 1, x.judge());
      x.propose(k / 4, k % 4, 0);
      Check.due("16: and none again", 2, x.judge());
    }
    TwoWaySeats y = Make.seats(Make.row(1, 1), Make.row(9, 9), Make.row(9, 9));
    y.solve();
    Check.due("16: also after solve", 2, y.judge());
    Make.propose(y, Make.row(0, 1), Make.row(1, 0));
    Check.due("16: it is not the first table", "1 0 | 0 1", Make.table(y, false));
    y.solve();
    Check.due("16: nor does solve change it", 0, y.judge());
  }

  /** Promise 16: "has n seats for a list from now on" */
  private static void proposalFromNowOn() {
    TwoWaySeats x = Make.seats(Make.row(3), Make.row(9));
    x.propose(0, 0, 1);
    x.propose(0, 0, 2);
    Check.due("16: not added", 2, x.judge());
    x.propose(0, 0, 3);
    Check.due("16: the last one stands", 0, x.judge());
    x.district(1);
    x.party();
    Check.due("16: a new list has none", 2, x.judge());
    x.propose(1, 0, 1);
    x.votes(1, 0, 1);
    Check.due("16: the old ones have theirs", 0, x.judge());
    x.weigh(true);
    x.threshold(10);
    x.lot(0, 0);
    Check.due("16: no change takes it away", 0, x.judge());
  }

  /** Promise 17: "0 when it obeys, 1 .., 2 .., 3 .., 4 when it fits, but does not obey" */
  private static void judgesEach() {
    TwoWaySeats x = Make.seats(Make.row(2, 2), Make.row(9, 9, 0), Make.row(9, 9, 0));
    Make.propose(x, Make.row(1, 1, 0), Make.row(1, 1, 0));
    Check.due("17: obeys", 0, x.judge());
    Make.propose(x, Make.row(1, 0, 1), Make.row(1, 1, 0));
    Check.due("17: a list without votes", 1, x.judge());
    Make.propose(x, Make.row(1, 0, 0), Make.row(1, 2, 0));
    Check.due("17: a district", 2, x.judge());
    Make.propose(x, Make.row(1, 1, 0), Make.row(0, 2, 0));
    Check.due("17: a party", 3, x.judge());
    Make.propose(x, Make.row(2, 0, 0), Make.row(0, 2, 0));
    Check.due("17: does not obey", 4, x.judge());
    Make.propose(x, Make.row(0, 2, 0), Make.row(2, 0, 0));
    Check.due("17: nor this", 4, x.judge());
    TwoWaySeats y = Make.seats(Make.row(1), Make.row(0));
    Check.refused("17: nothing to share", Check.STATE, () -> y.judge());
    y.propose(0, 0, 1);
    Check.refused("17: nothing to share, but proposed", Check.STATE, () -> y.judge());
    y.votes(0, 0, 1);
    Check.due("17: one vote", 0, y.judge());
  }

  /** Promise 17: "(the least of these that is so)" */
  private static void judgesTheLeast() {
    // Shares 3, 1 and 0; list (0, 2) has no votes.
    TwoWaySeats x = Make.seats(Make.row(2, 2), Make.row(30, 9, 0), Make.row(30, 9, 1));
    Check.due("17: shares", "3 1 0", Make.shares(x));
    Make.propose(x, Make.row(2, 0, 1), Make.row(1, 1, 0));
    Check.due("17: 1 and 2 and 3", 1, x.judge());
    Make.propose(x, Make.row(1, 0, 1), Make.row(1, 1, 0));
    Check.due("17: 1 and 3", 1, x.judge());
    Make.propose(x, Make.row(0, 0, 0), Make.row(0, 0, 0));
    Check.due("17: 2 and 3", 2, x.judge());
    Make.propose(x, Make.row(3, 0, 0), Make.row(0, 1, 0));
    Check.due("17: 2 alone", 2, x.judge());
    Make.propose(x, Make.row(2, 0, 0), Make.row(1, 0, 1));
    Check.due("17: 3 alone", 3, x.judge());
    Make.propose(x, Make.row(2, 0, 0), Make.row(1, 1, 0));
    Check.due("17: none", 0, x.judge());
    x.votes(1, 1, 1);
    x.votes(0, 1, 17);
    Check.due("17: it fits, but does not obey", 4, x.judge());
    // No proposal at all can be 0 or 4 where no table fits.
    TwoWaySeats y = Make.seats(Make.row(1, 1), Make.row(9, 9), Make.row(0, 0));
    for (int k = 0; k < 16; k++) {
      Make.propose(y, Make.row(k & 1, k >> 1 & 1), Make.row(k >> 2 & 1, k >> 3));
      Check.due("17: a district without votes", k > 3 ? 1 : 2, y.judge());
    }
  }

  /** Promise 17: "The proposal": judged by what there is now, solved or not. */
  private static void judgesWhatIsNow() {
    TwoWaySeats x = Make.seats(Make.row(1), Make.row(9, 9));
    x.propose(0, 0, 1);
    Check.due("17: by number", 0, x.judge());
    x.solve();
    x.lot(0, 1);
    Check.due("17: by lot", 3, x.judge());
    x.votes(0, 0, 10);
    Check.due("17: by votes", 0, x.judge());
    x.threshold(527);
    Check.refused("17: all out", Check.STATE, () -> x.judge());
    x.threshold(526);
    Check.due("17: 10 of 19 are 526", 0, x.judge());
    x.votes(0, 1, 11);
    x.threshold(524);
    Check.refused("17: 11 of 21 are 523", Check.STATE, () -> x.judge());
    x.threshold(523);
    Check.due("17: the other one is out", 1, x.judge());
    x.district(1);
    x.threshold(0);
    Check.due("17: by a new district", 2, x.judge());
  }
}
