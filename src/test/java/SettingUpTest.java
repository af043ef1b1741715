/** Promises 1 to 8: a new object, district, party, votes, weigh, threshold, lot, count. */
public final class SettingUpTest {
  public static void main(String[] args) {
    newObject();
    districts();
    districtsRefused();
    parties();
    votes();
    votesRefused();
    weigh();
    weighByAllDistricts();
    threshold();
    thresholdDoesNotWeigh();
    thresholdEdges();
    lot();
    lotMoves();
    lotRefused();
    countStays();
    Check.end();
  }

  private static void newObject() {
    TwoWaySeats x = new TwoWaySeats();
    Check.due("1: districts", 0, x.count(false));
    Check.due("1: parties", 0, x.count(true));
    Check.refused("1: share", Check.STATE, () -> x.share(0));
    Check.refused("1: tied", Check.STATE, () -> x.tied(0));
    Check.refused("1: solve", Check.STATE, () -> x.solve());
    Check.refused("1: seats", Check.STATE, () -> x.seats(0, 0, false));
    Check.refused("1: unique", Check.STATE, () -> x.unique());
    Check.refused("1: number", Check.STATE, () -> x.number(false, 0, false));
    Check.refused("1: blocks", Check.STATE, () -> x.blocks(false, 0));
    Check.refused("1: judge", Check.STATE, () -> x.judge());
    Check.refused("1: votes", Check.INDEX, () -> x.votes(0, 0, 1));
    Check.refused("1: propose", Check.INDEX, () -> x.propose(0, 0, 1));
    Check.refused("1: lot", Check.INDEX, () -> x.lot(0, 0));
    TwoWaySeats other = Make.seats(Make.row(2), Make.row(1, 1));
    Check.due("1: objects know nothing of each other", "1 1", Make.shares(other));
    Check.due("1: still no parties", 0, x.count(true));
  }

  private static void districts() {
    TwoWaySeats x = new TwoWaySeats();
    Check.due("2: first district", 0, x.district(1));
    Check.due("2: second", 1, x.district(17));
    Check.due("2: third", 2, x.district(1));
    Check.due("2: fourth, 20 together", 3, x.district(1));
    Check.due("2: all of 20", 0, new TwoWaySeats().district(20));
    x.party();
    x.votes(1, 0, 5);
    Check.due("2: seats together are shared", 20, x.share(0));
  }

  private static void districtsRefused() {
    TwoWaySeats x = new TwoWaySeats();
    Check.refused("2: no seats", Check.ARGUMENT, () -> x.district(0));
    Check.refused("2: less than none", Check.ARGUMENT, () -> x.district(-1));
    Check.refused("2: 21", Check.ARGUMENT, () -> x.district(21));
    Check.refused("2: the most", Check.ARGUMENT, () -> x.district(Integer.MAX_VALUE));
    Check.refused("2: the least", Check.ARGUMENT, () -> x.district(Integer.MIN_VALUE));
    Check.due("2: none was made", 0, x.count(false));
    x.district(6);
    x.district(7);
    Check.refused("2: 21 together", Check.ARGUMENT, () -> x.district(8));
    Check.refused("2: wraps around together", Check.ARGUMENT, () -> x.district(Integer.MAX_VALUE));
    x.district(5);
    x.district(1);
    Check.refused("2: a fifth", Check.UNSUPPORTED, () -> x.district(1));
    Check.refused("2: a fifth with none", Check.ARGUMENT, () -> x.district(0));
    Check.refused("2: a fifth with too many together", Check.ARGUMENT, () -> x.district(2));
    Check.refused("2: a fifth with too many", Check.ARGUMENT, () -> x.district(21));
    Check.due("2: there are four", 4, x.count(false));
    x.party();
    x.votes(0, 0, 1);
    Check.due("2: with 19 together", 19, x.share(0));
  }

  private static void parties() {
    TwoWaySeats x = new TwoWaySeats();
    for (int p = 0; p < 4; p++) {
      Check.due("3: party", p, x.party());
      Check.due("8: parties", p + 1, x.count(true));
    }
    Check.refused("3: a fifth", Check.UNSUPPORTED, () -> x.party());
    Check.due("3: there are four", 4, x.count(true));
    Check.due("8: no district", 0, x.count(false));
  }

  private static void votes() {
    TwoWaySeats x = Make.seats(Make.row(4, 5), Make.row(0, 0), Make.row(0, 0));
    Check.refused("4: at first none", Check.STATE, () -> x.share(0));
    x.votes(0, 0, 500);
    Check.due("4: all for it", "9 0", Make.shares(x));
    x.votes(1, 1, 400);
    Check.due("4: two lists", "5 4", Make.shares(x));
    x.votes(0, 0, 100);
    Check.due("4: from now on, not added", "2 7", Make.shares(x));
    x.votes(0, 0, 0);
    Check.due("4: taken away", "0 9", Make.shares(x));
    x.votes(1, 1, 0);
    Check.refused("4: all taken away", Check.STATE, () -> x.share(0));
  }

  private static void votesRefused() {
    TwoWaySeats x = Make.seats(Make.row(4, 5), Make.row(10, 20, 30), Make.row(40, 50, 60));
    Check.refused("4: no such district", Check.INDEX, () -> x.votes(2, 0, 1));
    Check.refused("4: district -1", Check.INDEX, () -> x.votes(-1, 0, 1));
    Check.refused("4: no such party", Check.INDEX, () -> x.votes(0, 3, 1));
    Check.refused("4: party -1", Check.INDEX, () -> x.votes(1, -1, 1));
    Check.refused("4: the most", Check.INDEX, () -> x.votes(Integer.MAX_VALUE, 0, 1));
    Check.refused("4: the least", Check.INDEX, () -> x.votes(0, Integer.MIN_VALUE, 1));
    Check.refused("4: index before votes", Check.INDEX, () -> x.votes(2, 0, 501));
    Check.refused("4: party before votes", Check.INDEX, () -> x.votes(0, 3, -1));
    Check.refused("4: 501 votes", Check.ARGUMENT, () -> x.votes(0, 0, 501));
    Check.refused("4: -1 votes", Check.ARGUMENT, () -> x.votes(0, 0, -1));
    Check.due("4: nothing changed", "2 3 4", Make.shares(x));
  }

  private static void weigh() {
    // Not weighed 120 : 100, weighed 120 / 12 : 100 / 2.
    TwoWaySeats x = Make.seats(Make.row(12, 2), Make.row(120, 0), Make.row(0, 100));
    Check.due("5: at first not", "8 6", Make.shares(x));
    x.weigh(true);
    Check.due("5: weighed", "2 12", Make.shares(x));
    x.weigh(true);
    Check.due("5: weighed still", "2 12", Make.shares(x));
    x.weigh(false);
    Check.due("5: no more", "8 6", Make.shares(x));
  }

  private static void weighByAllDistricts() {
    // 7/2 + 11/3 = 43/6 and 5/5 + 31/5 = 36/5: the second party is ahead by 1/30.
    TwoWaySeats x = Make.seats(
        Make.row(2, 3, 5, 5), Make.row(7, 0), Make.row(11, 0), Make.row(0, 5), Make.row(0, 31));
    x.weigh(true);
    Check.due("5: fractions are not rounded", "7 8", Make.shares(x));
    x.votes(0, 0, 8);
    Check.due("5: now the other is ahead", "8 7", Make.shares(x));
  }

  private static void threshold() {
    // Of 100 votes 50, 45 and 5.
    TwoWaySeats x = Make.seats(Make.row(10, 10), Make.row(30, 25, 5), Make.row(20, 20, 0));
    Check.due("6: at first none", "10 9 1", Make.shares(x));
    x.threshold(50);
    Check.due("6: just enough is in", "10 9 1", Make.shares(x));
    x.threshold(51);
    Check.due("6: less is out", "11 9 0", Make.shares(x));
    x.threshold(450);
    Check.due("6: all lists of a party together", "11 9 0", Make.shares(x));
    x.threshold(451);
    Check.due("6: votes of those out count for the threshold", "20 0 0", Make.shares(x));
    x.threshold(501);
    Check.refused("6: all are out", Check.STATE, () -> x.share(0));
    Check.refused("6: all are out, solve", Check.STATE, () -> x.solve());
    Check.refused("6: all are out, judge", Check.STATE, () -> x.judge());
    x.threshold(0);
    Check.due("6: none again", "10 9 1", Make.shares(x));
    x.votes(0, 2, 4);
    x.threshold(40);
    Check.due("6: 4 of 99 are over 40 thousandths", "10 9 1", Make.shares(x));
    x.threshold(41);
    Check.due("6: but not over 41", "11 9 0", Make.shares(x));
  }

  private static void thresholdDoesNotWeigh() {
    // The second party has 50 thousandths of the votes, but a third of the weights.
    TwoWaySeats x = Make.seats(Make.row(2, 18), Make.row(0, 5), Make.row(95, 0));
    x.weigh(true);
    x.threshold(50);
    Check.due("6: in", "14 6", Make.shares(x));
    x.threshold(51);
    Check.due("6: the threshold does not weigh", "20 0", Make.shares(x));
  }

  private static void thresholdEdges() {
    TwoWaySeats x = Make.seats(Make.row(3), Make.row(7, 0));
    Check.refused("6: -1", Check.ARGUMENT, () -> x.threshold(-1));
    Check.refused("6: 1001", Check.ARGUMENT, () -> x.threshold(1001));
    x.threshold(1000);
    Check.due("6: 1000 is right, and all votes reach it", "3 0", Make.shares(x));
    Check.refused("6: the most", Check.ARGUMENT, () -> x.threshold(Integer.MAX_VALUE));
    x.votes(0, 1, 1);
    Check.refused("6: 1000 stands still", Check.STATE, () -> x.share(0));
  }

  private static void lot() {
    TwoWaySeats x = Make.seats(Make.row(1), Make.row(6, 6, 6, 6));
    Check.due("7: at first by numbers", "1 0 0 0", Make.shares(x));
    x.lot(3, 2);
    Check.due("7: any position is before none", "0 0 1 0", Make.shares(x));
    x.lot(1, 3);
    Check.due("7: the lesser position", "0 0 0 1", Make.shares(x));
    x.lot(0, 1);
    Check.due("7: the least position", "0 1 0 0", Make.shares(x));
    x.district(1);
    Check.due("7: then the next", "0 1 0 1", Make.shares(x));
    x.district(2);
    Check.due("7: all", "1 1 1 1", Make.shares(x));
    x.votes(0, 0, 7);
    x.votes(0, 1, 5);
    Check.due("7: only where weights are the same", "1 1 1 1", Make.shares(x));
  }

  private static void lotMoves() {
    TwoWaySeats x = Make.seats(Make.row(1), Make.row(6, 6, 6));
    x.lot(0, 1);
    x.lot(0, 2);
    Check.due("7: the position went over", "0 0 1", Make.shares(x));
    x.lot(2, 2);
    Check.due("7: its old one is free", "0 0 1", Make.shares(x));
    x.lot(2, 0);
    Check.due("7: both others have none", "1 0 0", Make.shares(x));
    x.lot(3, 1);
    Check.due("7: 2 before 3", "1 0 0", Make.shares(x));
    x.lot(2, 1);
    Check.due("7: moved up, and the other has none", "0 1 0", Make.shares(x));
    x.lot(2, 1);
    Check.due("7: as it was", "0 1 0", Make.shares(x));
    x.lot(3, 1);
    x.lot(2, 2);
    Check.due("7: only one position each", "0 0 1", Make.shares(x));
    x.lot(3, 2);
    Check.due("7: party 1 lost its only one", "0 0 1", Make.shares(x));
    x.lot(3, 0);
    x.votes(0, 0, 5);
    Check.due("7: the rest by numbers again", "0 1 0", Make.shares(x));
  }

  private static void lotRefused() {
    TwoWaySeats x = Make.seats(Make.row(1), Make.row(6, 6));
    x.lot(3, 1);
    Check.refused("7: position 4", Check.INDEX, () -> x.lot(4, 0));
    Check.refused("7: position -1", Check.INDEX, () -> x.lot(-1, 0));
    Check.refused("7: party 2", Check.INDEX, () -> x.lot(3, 2));
    Check.refused("7: party -1", Check.INDEX, () -> x.lot(3, -1));
    Check.refused("7: the least", Check.INDEX, () -> x.lot(Integer.MIN_VALUE, Integer.MAX_VALUE));
    Check.due("7: the position is still held", "0 1", Make.shares(x));
  }

  private static void countStays() {
    TwoWaySeats x = Make.seats(Make.row(3, 4, 5), Make.row(1, 2), Make.row(3, 4), Make.row(5, 6));
    Check.due("8: districts", 3, x.count(false));
    Check.due("8: parties", 2, x.count(true));
    x.solve();
    Check.due("8: districts after solve", 3, x.count(false));
    Check.due("8: count ends nothing", true, x.unique());
  }
}
