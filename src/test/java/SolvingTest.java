/** Promises 11 to 15: solve, seats, unique, number, blocks. */
public final class SolvingTest {
  public static void main(String[] args) {
    solveRefused();
    oneTable();
    moreThanOne();
    ringsOfThree();
    ringsOfFour();
    tablesWithoutVotes();
    tablesOfThoseOut();
    lotDecides();
    asksRefused();
    numbers();
    numbersAlongWays();
    greatNumbers();
    noNumber();
    numberRefused();
    noVotesBlock();
    setBlocks();
    leastSetBlocks();
    partiesOfTheBlock();
    blocksRefused();
    Check.end();
  }

  private static void solveRefused() {
    TwoWaySeats x = new TwoWaySeats();
    Check.refused("11: nothing", Check.STATE, () -> x.solve());
    x.party();
    x.district(2);
    Check.refused("11: no votes", Check.STATE, () -> x.solve());
    Check.refused("12: not solved by that", Check.STATE, () -> x.seats(0, 0, false));
    Check.refused("15: not solved by that", Check.STATE, () -> x.blocks(false, 0));
    x.votes(0, 0, 1);
    Check.due("11: one vote", true, x.solve());
    Check.due("12: all", 2, x.seats(0, 0, false));
    Check.due("11: again", true, x.solve());
    Check.due("12: again", 2, x.seats(0, 0, true));
  }

  private static void oneTable() {
    TwoWaySeats x = Make.seats(
        Make.row(3, 4, 5), Make.row(120, 40, 35), Make.row(200, 180, 20), Make.row(90, 300, 111));
    Check.due("11: it does", true, x.solve());
    Check.due("12: first", "1 1 1 | 2 2 0 | 1 3 1", Make.table(x, false));
    Check.due("12: last", "1 1 1 | 2 2 0 | 1 3 1", Make.table(x, true));
    Check.due("13: only one", true, x.unique());
  }

  private static void moreThanOne() {
    TwoWaySeats x = Make.seats(Make.row(1, 1), Make.row(10, 10), Make.row(10, 10));
    Check.due("11: it does", true, x.solve());
    Check.due("12: first", "1 0 | 0 1", Make.table(x, false));
    Check.due("12: last", "0 1 | 1 0", Make.table(x, true));
    Check.due("13: two", false, x.unique());
    x.votes(1, 0, 11);
    x.solve();
    Check.due("12: one vote decides", "0 1 | 1 0", Make.table(x, false));
    Check.due("13: now one", true, x.unique());
    TwoWaySeats y = Make.seats(Make.row(2, 2, 2), Make.row(7, 7), Make.row(7, 7), Make.row(7, 7));
    y.solve();
    Check.due("12: all even", "1 1 | 1 1 | 1 1", Make.table(y, false));
    Check.due("13: all even", true, y.unique());
    TwoWaySeats z = Make.seats(Make.row(1, 2, 1), Make.row(7, 7), Make.row(7, 7), Make.row(7, 7));
    z.solve();
    Check.due("12: first of two", "1 0 | 1 1 | 0 1", Make.table(z, false));
    Check.due("12: last of two", "0 1 | 1 1 | 1 0", Make.table(z, true));
  }

  private static void ringsOfThree() {
    TwoWaySeats x = Make.seats(
        Make.row(1, 1, 1), Make.row(10, 10, 0), Make.row(0, 10, 10), Make.row(10, 0, 10));
    x.solve();
    Check.due("12: first by a ring of three", "1 0 0 | 0 1 0 | 0 0 1", Make.table(x, false));
    Check.due("12: last by a ring of three", "0 1 0 | 0 0 1 | 1 0 0", Make.table(x, true));
    Check.due("13: two by a ring of three", false, x.unique());
    x.votes(1, 2, 11);
    x.solve();
    Check.due("12: a gain of 11/10", "0 1 0 | 0 0 1 | 1 0 0", Make.table(x, false));
    Check.due("13: just that", true, x.unique());
  }

  private static void ringsOfFour() {
    TwoWaySeats x = Make.seats(
        Make.row(1, 1, 1, 1),
        Make.row(500, 500, 0, 0), Make.row(0, 500, 500, 0),
        Make.row(0, 0, 500, 500), Make.row(500, 0, 0, 500));
    x.solve();
    Check.due("12: first of four", "1 0 0 0 | 0 1 0 0 | 0 0 1 0 | 0 0 0 1", Make.table(x, false));
    Check.due("12: last of four", "0 1 0 0 | 0 0 1 0 | 0 0 0 1 | 1 0 0 0", Make.table(x, true));
    x.votes(3, 3, 499);
    x.solve();
    Check.due("12: 500/499", "0 1 0 0 | 0 0 1 0 | 0 0 0 1 | 1 0 0 0", Make.table(x, false));
    Check.due("13: just that", true, x.unique());
    x.votes(3, 3, 500);
    x.votes(3, 0, 499);
    x.solve();
    Check.due("12: 499/500", "1 0 0 0 | 0 1 0 0 | 0 0 1 0 | 0 0 0 1", Make.table(x, true));
    Check.due("13: just this", true, x.unique());
  }

  private static void tablesWithoutVotes() {
    TwoWaySeats x = Make.seats(Make.row(2, 2), Make.row(0, 10), Make.row(10, 10));
    x.solve();
    Check.due("12: lists without votes have none", "0 2 | 1 1", Make.table(x, false));
    x.party();
    x.solve();
    Check.due("12: nor parties without any", "0 2 0 | 1 1 0", Make.table(x, false));
    TwoWaySeats y = Make.seats(Make.row(3, 3), Make.row(500, 0), Make.row(500, 1));
    y.solve();
    Check.due("12: one way only", "3 0 | 3 0", Make.table(y, false));
  }

  private static void tablesOfThoseOut() {
    TwoWaySeats x = Make.seats(Make.row(3, 3), Make.row(50, 40, 10), Make.row(45, 45, 10));
    x.solve();
    Check.due("12: in", "2 1 0 | 1 1 1", Make.table(x, false));
    x.threshold(101);
    Check.due("11: with the third out", true, x.solve());
    Check.due("12: out", "2 1 0 | 1 2 0", Make.table(x, false));
    Check.due("13: out", true, x.unique());
  }

  private static void lotDecides() {
    TwoWaySeats x = Make.seats(Make.row(1, 2), Make.row(10, 10), Make.row(10, 10));
    x.solve();
    Check.due("12: by number", "1 0 | 1 1", Make.table(x, false));
    x.lot(2, 1);
    x.solve();
    Check.due("12: by lot", "0 1 | 1 1", Make.table(x, false));
  }

  private static void asksRefused() {
    TwoWaySeats x = Make.seats(Make.row(1, 2), Make.row(10, 20), Make.row(30, 40));
    Check.refused("12: not solved", Check.STATE, () -> x.seats(0, 0, false));
    Check.refused("12: state before index", Check.STATE, () -> x.seats(9, 9, false));
    Check.refused("13: not solved", Check.STATE, () -> x.unique());
    x.solve();
    Check.refused("12: district 2", Check.INDEX, () -> x.seats(2, 0, false));
    Check.refused("12: party 2", Check.INDEX, () -> x.seats(0, 2, true));
    Check.refused("12: district -1", Check.INDEX, () -> x.seats(-1, 0, true));
    Check.refused("12: party -1", Check.INDEX, () -> x.seats(1, -1, false));
    Check.refused("12: the most", Check.INDEX, () -> x.seats(Integer.MAX_VALUE, 0, false));
    Check.refused("12: the least", Check.INDEX, () -> x.seats(0, Integer.MIN_VALUE, false));
    x.votes(0, 0, 0);
    x.votes(0, 1, 0);
    Check.due("11: no table", false, x.solve());
    Check.refused("12: no table", Check.STATE, () -> x.seats(0, 0, false));
    Check.refused("12: no table, last", Check.STATE, () -> x.seats(0, 0, true));
    Check.refused("13: no table", Check.STATE, () -> x.unique());
    Check.refused("14: no table", Check.STATE, () -> x.number(false, 0, false));
    Check.refused("14: no table, no party", Check.STATE, () -> x.number(true, 9, false));
  }

  private static void numbers() {
    TwoWaySeats x = Make.seats(Make.row(1, 1), Make.row(10, 10), Make.row(10, 10));
    x.solve();
    Check.due("14: party 0 by its way without a seat", "10/1", Make.number(x, true, 0));
    Check.due("14: party 1", "10/1", Make.number(x, true, 1));
    Check.due("14: district 0", "1/1", Make.number(x, false, 0));
    Check.due("14: district 1", "1/1", Make.number(x, false, 1));
    TwoWaySeats y = Make.seats(Make.row(5), Make.row(100, 60, 15));
    y.solve();
    Check.due("12: one district", "3 2 0", Make.table(y, false));
    Check.due("14: 100/7", "100/7", Make.number(y, true, 0));
    Check.due("14: 60/5 in lowest terms", "12/1", Make.number(y, true, 1));
    Check.due("14: without seats", "15/1", Make.number(y, true, 2));
    Check.due("14: district", "1/1", Make.number(y, false, 0));
    Check.due("14: below at once", 7, y.number(true, 0, true));
  }

  private static void numbersAlongWays() {
    // A district whose lists are weak: its number makes its votes count 100 times as much.
    TwoWaySeats x = Make.seats(Make.row(2, 2), Make.row(400, 400), Make.row(4, 4));
    x.solve();
    Check.due("12: both alike", "1 1 | 1 1", Make.table(x, false));
    Check.due("14: the strong district", "1/1", Make.number(x, false, 0));
    Check.due("14: the weak one, 400/3 times 1/4", "100/3", Make.number(x, false, 1));
    Check.due("14: party 0", "400/3", Make.number(x, true, 0));
    Check.due("14: party 1", "400/3", Make.number(x, true, 1));
    // Three ways: to party 1 by district 0, to district 1 by its seat there, to party 0.
    TwoWaySeats y = Make.seats(Make.row(1, 1), Make.row(9, 30), Make.row(0, 1));
    y.votes(1, 0, 1);
    y.solve();
    Check.due("9: shares", "0 2", Make.shares(y));
    Check.due("14: district 1 has 30/3 of 1/1", "10/1", Make.number(y, false, 1));
    Check.due("14: party 0 from it", "10/1", Make.number(y, true, 0));
    Check.due("14: party 1", "10/1", Make.number(y, true, 1));
  }

  private static void greatNumbers() {
    // The ways go down a chain: no list lies beside it, so each number is made of the one before.
    TwoWaySeats x = Make.seats(
        Make.row(5, 5, 5, 5),
        Make.row(499, 491, 0, 0), Make.row(0, 7, 487, 0),
        Make.row(0, 0, 3, 479), Make.row(0, 0, 0, 2));
    Check.due("11: a chain", true, x.solve());
    Check.due("12: a chain", "5 0 0 0 | 0 5 0 0 | 0 0 5 0 | 0 0 0 5", Make.table(x, false));
    Check.due("14: where it begins", "1/1", Make.number(x, false, 0));
    Check.due("14: beside it", "499/11", Make.number(x, true, 0));
    Check.due("14: one way", "491/1", Make.number(x, true, 1));
    Check.due("14: two ways, times 9/7", "4419/7", Make.number(x, false, 1));
    Check.due("14: three, times 487", "2152053/7", Make.number(x, true, 2));
    Check.due("14: four, times 9/3", "6456159/7", Make.number(x, false, 2));
    Check.due("14: five, times 479", "3092500161/7", Make.number(x, true, 3));
    Check.due("14: six, times 9/2", "27832501449/14", Make.number(x, false, 3));
  }

  private static void noNumber() {
    TwoWaySeats x = Make.seats(Make.row(2, 2), Make.row(10, 0, 1), Make.row(10, 0, 1));
    x.solve();
    Check.due("14: no seats, but ways", "1/1", Make.number(x, true, 2));
    Check.refused("14: no way", Check.NO_ELEMENT, () -> x.number(true, 1, false));
    Check.refused("14: no way, below", Check.NO_ELEMENT, () -> x.number(true, 1, true));
    Check.due("14: district 1 of the same k", "1/1", Make.number(x, false, 1));
    x.threshold(100);
    x.solve();
    Check.refused("14: out", Check.NO_ELEMENT, () -> x.number(true, 2, false));
    x.threshold(0);
    x.solve();
    Check.due("14: in again", "1/1", Make.number(x, true, 2));
  }

  private static void numberRefused() {
    TwoWaySeats x = Make.seats(Make.row(1, 2), Make.row(10, 20, 0), Make.row(30, 40, 0));
    Check.refused("14: not solved", Check.STATE, () -> x.number(true, 0, false));
    Check.refused("14: state before index", Check.STATE, () -> x.number(true, 5, false));
    Check.refused("14: state before no way", Check.STATE, () -> x.number(true, 2, false));
    x.solve();
    Check.refused("14: district 2", Check.INDEX, () -> x.number(false, 2, false));
    Check.refused("14: party 3", Check.INDEX, () -> x.number(true, 3, true));
    Check.refused("14: party -1", Check.INDEX, () -> x.number(true, -1, true));
    Check.refused("14: district -1", Check.INDEX, () -> x.number(false, -1, false));
    Check.refused("14: the most", Check.INDEX, () -> x.number(true, Integer.MAX_VALUE, false));
    Check.refused("14: party 2 has none", Check.NO_ELEMENT, () -> x.number(true, 2, false));
  }

  private static void noVotesBlock() {
    TwoWaySeats x = Make.seats(Make.row(3, 4), Make.row(10, 20), Make.row(0, 0));
    Check.due("11: a district without votes", false, x.solve());
    Check.due("15: that one, and no party", "-b --", Make.block(x));
    x.votes(1, 0, 1);
    Check.due("11: 4 seats for a party of 2", false, x.solve());
    Check.due("15: with its party", "-b b-", Make.block(x));
    x.votes(1, 1, 1);
    Check.due("11: now there is a table", true, x.solve());
    Check.refused("15: a table fits", Check.STATE, () -> x.blocks(false, 0));
  }

  private static void setBlocks() {
    TwoWaySeats x = Make.seats(Make.row(3, 3, 4), Make.row(20, 0), Make.row(20, 0), Make.row(0, 60));
    Check.due("9: shares", "4 6", Make.shares(x));
    Check.due("11: six seats for four", false, x.solve());
    Check.due("15: two districts", "bb- b-", Make.block(x));
    TwoWaySeats y = Make.seats(Make.row(4, 3, 3), Make.row(0, 60), Make.row(20, 0), Make.row(20, 0));
    y.solve();
    Check.due("15: the upper two", "-bb b-", Make.block(y));
    TwoWaySeats z = Make.seats(Make.row(2, 2, 3), Make.row(20, 0), Make.row(20, 0), Make.row(0, 40));
    Check.due("9: even, so the odd seat is a tie", "4 3", Make.shares(z));
    Check.due("11: just enough", true, z.solve());
    z.lot(0, 1);
    Check.due("11: the lot makes it impossible", false, z.solve());
    Check.due("15: by one seat", "bb- b-", Make.block(z));
  }

  private static void leastSetBlocks() {
    TwoWaySeats x = Make.seats(
        Make.row(3, 3, 4, 5), Make.row(10, 0), Make.row(10, 0), Make.row(0, 0), Make.row(0, 80));
    Check.due("9: shares", "3 12", Make.shares(x));
    x.solve();
    Check.due("15: 1 + 2 is less than 4", "bb-- b-", Make.block(x));
    x.votes(0, 1, 1);
    x.solve();
    Check.due("15: now the third alone", "--b- --", Make.block(x));
  }

  private static void partiesOfTheBlock() {
    TwoWaySeats x = Make.seats(Make.row(3, 4), Make.row(2, 1, 0), Make.row(0, 0, 500));
    x.solve();
    Check.due("15: parties without a share too", "b- bb-", Make.block(x));
    x.threshold(3);
    x.solve();
    Check.due("15: but not those out", "b- b--", Make.block(x));
    x.threshold(5);
    x.solve();
    Check.due("15: all of them out", "b- ---", Make.block(x));
  }

  private static void blocksRefused() {
    TwoWaySeats x = Make.seats(Make.row(3, 4), Make.row(10, 20), Make.row(0, 0));
    Check.refused("15: not solved", Check.STATE, () -> x.blocks(false, 1));
    Check.refused("15: state before index", Check.STATE, () -> x.blocks(false, 9));
    x.solve();
    Check.refused("15: district 2", Check.INDEX, () -> x.blocks(false, 2));
    Check.refused("15: party 2", Check.INDEX, () -> x.blocks(true, 2));
    Check.refused("15: district -1", Check.INDEX, () -> x.blocks(false, -1));
    Check.refused("15: party 32", Check.INDEX, () -> x.blocks(true, 32));
    x.votes(1, 1, 20);
    Check.refused("15: ended", Check.STATE, () -> x.blocks(false, 1));
    x.solve();
    Check.refused("15: a table fits", Check.STATE, () -> x.blocks(false, 1));
    Check.refused("15: a table fits, no district", Check.STATE, () -> x.blocks(false, 5));
  }
}
