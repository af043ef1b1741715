/**
 * The last sentences of "Terms", and the 512 calls: what ends what was SOLVED and what does not,
 * that a refused call changes nothing, and which exception goes first. Each has its own test.
 */
public final class EdgesOfEndingTest {
  private static final int[] FAR = {Integer.MIN_VALUE, Integer.MAX_VALUE};

  private interface Act {
    void on(TwoWaySeats x);
  }

  private interface Maker {
    TwoWaySeats make();
  }

  public static void main(String[] args) {
    changesEnd();
    sayingWhatThereIsEnds();
    asksEndNothing();
    proposalsEndNothing();
    refusedOnANewObject();
    refusedWithNothingToShare();
    refusedWhereNotSolved();
    refusedWhereSolved();
    refusedWhereBlocked();
    refusedWhereFull();
    firstNamedOfDistrict();
    firstNamedOfIndexes();
    firstNamedOfStates();
    allCallsAreAnswered();
    Check.end();
  }

  /** Three tables obey; party 2 is out; the lot gives the odd seat to party 1. */
  private static TwoWaySeats open() {
    TwoWaySeats x = Make.seats(
        Make.row(1, 1, 1), Make.row(10, 10, 0), Make.row(10, 10, 0), Make.row(10, 10, 1));
    x.threshold(50);
    x.lot(0, 1);
    Make.propose(x, Make.row(0, 1, 0), Make.row(1, 0, 0), Make.row(0, 1, 0));
    return x;
  }

  private static TwoWaySeats shared() {
    TwoWaySeats x = open();
    Check.due("a table obeys", true, x.solve());
    return x;
  }

  /** The second district has four seats, and votes for party 0 alone, whose share is 2. */
  private static TwoWaySeats blocked() {
    TwoWaySeats x = Make.seats(Make.row(3, 4), Make.row(10, 20, 0), Make.row(1, 0, 0));
    Check.due("no table obeys", false, x.solve());
    return x;
  }

  private static TwoWaySeats voteless() {
    TwoWaySeats x = Make.seats(Make.row(2, 3), Make.row(0, 0, 0));
    x.propose(1, 2, 3);
    return x;
  }

  /** Four of each with these seats, solved. */
  private static TwoWaySeats full(int lastSeats) {
    TwoWaySeats x = Make.seats(
        Make.row(5, 5, 5, lastSeats),
        Make.row(9, 8, 7, 6), Make.row(6, 9, 8, 7), Make.row(7, 6, 9, 8), Make.row(8, 7, 6, 9));
    x.solve();
    return x;
  }

  private static void unsolved(String after, TwoWaySeats x) {
    Check.refused(after + ", first", Check.STATE, () -> x.seats(0, 0, false));
    Check.refused(after + ", last", Check.STATE, () -> x.seats(0, 0, true));
    Check.refused(after + ", unique", Check.STATE, () -> x.unique());
    Check.refused(after + ", a district's number", Check.STATE, () -> x.number(false, 0, false));
    Check.refused(after + ", a party's number", Check.STATE, () -> x.number(true, 0, true));
    Check.refused(after + ", a district's block", Check.STATE, () -> x.blocks(false, 0));
    Check.refused(after + ", a party's block", Check.STATE, () -> x.blocks(true, 0));
  }

  private static void ends(String what, Act change) {
    TwoWaySeats x = shared();
    change.on(x);
    unsolved(what + " ends a table", x);
    x.solve();
    Check.due(what + ", solved again", true, isSolved(x));
    TwoWaySeats y = blocked();
    change.on(y);
    unsolved(what + " ends a block", y);
    y.solve();
    Check.due(what + ", a block solved again", true, isSolved(y));
  }

  /** One of the two is answered where it is solved. */
  private static boolean isSolved(TwoWaySeats x) {
    return !Check.outcome(() -> x.unique()).startsWith("throws")
        || !Check.outcome(() -> x.blocks(false, 0)).startsWith("throws");
  }

  /** "Whatever changes something of this (district, party, votes, weigh, threshold, lot ..)" */
  private static void changesEnd() {
    ends("district", x -> x.district(1));
    ends("party", x -> x.party());
    ends("votes", x -> x.votes(0, 0, 11));
    ends("votes taken away", x -> x.votes(0, 0, 0));
    ends("votes where there were none", x -> x.votes(1, 2, 1));
    ends("weigh", x -> x.weigh(true));
    ends("threshold", x -> x.threshold(1));
    ends("lot", x -> x.lot(0, 0));
    ends("a free position", x -> x.lot(3, 2));
  }

  private static void endsThough(String what, Maker maker, Act same) {
    TwoWaySeats x = maker.make();
    String before = Make.everything(x);
    same.on(x);
    unsolved(what + " is what there is", x);
    x.solve();
    Check.due(what + ", solved again it is the same", before, Make.everything(x));
  }

  /** ".. also when it says what there is) ends what was SOLVED." */
  private static void sayingWhatThereIsEnds() {
    endsThough("10 votes", () -> shared(), x -> x.votes(0, 0, 10));
    endsThough("0 votes", () -> shared(), x -> x.votes(0, 2, 0));
    endsThough("not weighed", () -> shared(), x -> x.weigh(false));
    endsThough("threshold 50", () -> shared(), x -> x.threshold(50));
    endsThough("its position", () -> shared(), x -> x.lot(0, 1));
    endsThough("10 votes", () -> blocked(), x -> x.votes(0, 0, 10));
    endsThough("0 votes", () -> blocked(), x -> x.votes(1, 1, 0));
    endsThough("not weighed", () -> blocked(), x -> x.weigh(false));
    endsThough("threshold 0", () -> blocked(), x -> x.threshold(0));
    Maker weighed = () -> changed(x -> x.weigh(true));
    endsThough("weighed", weighed, x -> x.weigh(true));
    Maker high = () -> changed(x -> x.threshold(491));
    endsThough("threshold 491", high, x -> x.threshold(491));
  }

  private static TwoWaySeats changed(Act change) {
    TwoWaySeats x = open();
    change.on(x);
    x.solve();
    return x;
  }

  private static void endsNothing(String what, Act act) {
    TwoWaySeats x = shared();
    String table = Make.solved(x);
    act.on(x);
    Check.due(what + " leaves the tables", table, Make.solved(x));
    TwoWaySeats y = blocked();
    String block = Make.solved(y);
    act.on(y);
    Check.due(what + " leaves the block", block, Make.solved(y));
  }

  /** Only what changes something ends what was SOLVED; none of these does. */
  private static void asksEndNothing() {
    endsNothing("count", x -> x.count(false));
    endsNothing("count of parties", x -> x.count(true));
    endsNothing("share", x -> x.share(1));
    endsNothing("tied", x -> x.tied(1));
    endsNothing("solve", x -> x.solve());
    endsNothing("seats", x -> Check.outcome(() -> x.seats(0, 0, true)));
    endsNothing("unique", x -> Check.outcome(() -> x.unique()));
    endsNothing("number", x -> Check.outcome(() -> x.number(true, 2, false)));
    endsNothing("blocks", x -> Check.outcome(() -> x.blocks(true, 1)));
    endsNothing("judge", x -> x.judge());
  }

  /** "The PROPOSAL .. has n seats for a list from now on (this ends nothing)." */
  private static void proposalsEndNothing() {
    endsNothing("a proposal", x -> x.propose(0, 0, 1));
    endsNothing("a proposal of none", x -> x.propose(0, 0, 0));
    endsNothing("a proposal of 20", x -> x.propose(1, 2, 20));
    endsNothing("a proposal and judge", x -> { x.propose(0, 1, 3); x.judge(); });
    TwoWaySeats x = open();
    x.propose(0, 0, 1);
    unsolved("nor does a proposal solve", x);
  }

  /**
   * Makes the refused call on one of two alike: both must answer alike, also after what could bring
   * to light a change that was hidden at first.
   */
  private static void refused(String call, Class<?> due, Maker maker, Act act) {
    TwoWaySeats x = maker.make();
    TwoWaySeats untouched = maker.make();
    Check.refused(call, due, () -> act.on(x));
    Check.due(call + " changed nothing", Make.everything(untouched), Make.everything(x));
    goOn(x);
    goOn(untouched);
    Check.due(call + " hid no change", Make.everything(untouched), Make.everything(x));
  }

  private static void goOn(TwoWaySeats x) {
    Check.outcome(() -> x.district(1));
    Check.outcome(() -> x.party());
    for (int d = 0; d < x.count(false) && x.count(true) > 0; d++) {
      x.votes(d, 0, 10);
    }
    Check.outcome(() -> x.solve());
  }

  /** "A call that throws changes nothing": on a new object. */
  private static void refusedOnANewObject() {
    Maker made = () -> new TwoWaySeats();
    refusedDistricts("new", made, 21);
    refusedLists("new", made, 0, 0);
    refusedSettings("new", made, 0);
    refused("new: share", Check.STATE, made, x -> x.share(0));
    refused("new: tied", Check.STATE, made, x -> x.tied(0));
    refused("new: solve", Check.STATE, made, x -> x.solve());
    refused("new: judge", Check.STATE, made, x -> x.judge());
    refusedAsUnsolved("new", made);
  }

  private static void refusedDistricts(String where, Maker made, int tooMany) {
    for (int seats : new int[] {0, -1, tooMany, 21, FAR[0], FAR[1]}) {
      String call = where + ": district(" + seats + ")";
      refused(call, Check.ARGUMENT, made, x -> x.district(seats));
    }
  }

  /** Votes and proposals for lists that are not there, there being so many of both. */
  private static void refusedLists(String where, Maker made, int districts, int parties) {
    for (int d : new int[] {-1, districts, districts + 1, 4, FAR[0], FAR[1]}) {
      refused(where + ": votes of district " + d, Check.INDEX, made, x -> x.votes(d, 0, 1));
      refused(where + ": proposal of district " + d, Check.INDEX, made, x -> x.propose(d, 0, 1));
    }
    for (int p : new int[] {-1, parties, parties + 1, 4, FAR[0], FAR[1]}) {
      refused(where + ": votes of party " + p, Check.INDEX, made, x -> x.votes(0, p, 1));
      refused(where + ": proposal of party " + p, Check.INDEX, made, x -> x.propose(0, p, 1));
    }
  }

  private static void refusedAmounts(String where, Maker made) {
    for (int n : new int[] {-1, 501, FAR[0], FAR[1]}) {
      refused(where + ": votes " + n, Check.ARGUMENT, made, x -> x.votes(0, 0, n));
    }
    for (int n : new int[] {-1, 21, FAR[0], FAR[1]}) {
      refused(where + ": proposal " + n, Check.ARGUMENT, made, x -> x.propose(0, 0, n));
    }
  }

  private static void refusedSettings(String where, Maker made, int parties) {
    for (int t : new int[] {-1, 1001, FAR[0], FAR[1]}) {
      refused(where + ": threshold " + t, Check.ARGUMENT, made, x -> x.threshold(t));
    }
    for (int p : new int[] {-1, parties, parties + 1, 4, FAR[0], FAR[1]}) {
      refused(where + ": lot of party " + p, Check.INDEX, made, x -> x.lot(0, p));
    }
    for (int k : new int[] {-1, 4, FAR[0], FAR[1]}) {
      refused(where + ": lot at position " + k, Check.INDEX, made, x -> x.lot(k, 0));
    }
  }

  private static void refusedAsUnsolved(String where, Maker made) {
    refused(where + ": seats", Check.STATE, made, x -> x.seats(0, 0, false));
    refused(where + ": seats, last", Check.STATE, made, x -> x.seats(0, 0, true));
    refused(where + ": unique", Check.STATE, made, x -> x.unique());
    refused(where + ": number", Check.STATE, made, x -> x.number(false, 0, false));
    refused(where + ": number of a party", Check.STATE, made, x -> x.number(true, 0, true));
    refused(where + ": blocks", Check.STATE, made, x -> x.blocks(false, 0));
    refused(where + ": blocks of a party", Check.STATE, made, x -> x.blocks(true, 0));
  }

  /** "A call that throws changes nothing": with NOTHING TO SHARE. */
  private static void refusedWithNothingToShare() {
    Maker made = () -> voteless();
    refusedDistricts("no votes", made, 16);
    refusedLists("no votes", made, 2, 3);
    refusedAmounts("no votes", made);
    refusedSettings("no votes", made, 3);
    refused("no votes: share", Check.STATE, made, x -> x.share(0));
    refused("no votes: tied", Check.STATE, made, x -> x.tied(0));
    refused("no votes: solve", Check.STATE, made, x -> x.solve());
    refused("no votes: judge", Check.STATE, made, x -> x.judge());
    refusedAsUnsolved("no votes", made);
  }

  private static void refusedShares(String where, Maker made, int parties) {
    for (int p : new int[] {-1, parties, parties + 1, 4, FAR[0], FAR[1]}) {
      refused(where + ": share of " + p, Check.INDEX, made, x -> x.share(p));
      refused(where + ": tied of " + p, Check.INDEX, made, x -> x.tied(p));
    }
  }

  /** "A call that throws changes nothing": where there is what to share, but nothing SOLVED. */
  private static void refusedWhereNotSolved() {
    Maker made = () -> open();
    refusedDistricts("not solved", made, 18);
    refusedLists("not solved", made, 3, 3);
    refusedAmounts("not solved", made);
    refusedSettings("not solved", made, 3);
    refusedShares("not solved", made, 3);
    refusedAsUnsolved("not solved", made);
  }

  /** "A call that throws changes nothing": where a table was found. */
  private static void refusedWhereSolved() {
    Maker made = () -> shared();
    refusedDistricts("solved", made, 18);
    refusedLists("solved", made, 3, 3);
    refusedAmounts("solved", made);
    refusedSettings("solved", made, 3);
    refusedShares("solved", made, 3);
    for (int k : new int[] {-1, 3, 4, FAR[0], FAR[1]}) {
      refused("solved: seats of district " + k, Check.INDEX, made, x -> x.seats(k, 0, false));
      refused("solved: seats of party " + k, Check.INDEX, made, x -> x.seats(0, k, true));
      refused("solved: number " + k, Check.INDEX, made, x -> x.number(false, k, false));
      refused("solved: party's number " + k, Check.INDEX, made, x -> x.number(true, k, true));
    }
    refused("solved: no number", Check.NO_ELEMENT, made, x -> x.number(true, 2, false));
    refused("solved: no number, below", Check.NO_ELEMENT, made, x -> x.number(true, 2, true));
    refused("solved: blocks", Check.STATE, made, x -> x.blocks(false, 0));
    refused("solved: blocks of a party", Check.STATE, made, x -> x.blocks(true, 0));
  }

  /** "A call that throws changes nothing": where a block was found. */
  private static void refusedWhereBlocked() {
    Maker made = () -> blocked();
    refusedDistricts("blocked", made, 14);
    refusedLists("blocked", made, 2, 3);
    refusedAmounts("blocked", made);
    refusedSettings("blocked", made, 3);
    refusedShares("blocked", made, 3);
    for (int k : new int[] {-1, 3, 4, 32, FAR[0], FAR[1]}) {
      refused("blocked: district " + k, Check.INDEX, made, x -> x.blocks(false, k));
      refused("blocked: party " + k, Check.INDEX, made, x -> x.blocks(true, k));
    }
    refused("blocked: seats", Check.STATE, made, x -> x.seats(0, 0, false));
    refused("blocked: unique", Check.STATE, made, x -> x.unique());
    refused("blocked: number", Check.STATE, made, x -> x.number(false, 0, false));
    refused("blocked: number of a party", Check.STATE, made, x -> x.number(true, 0, true));
  }

  /** "A call that throws changes nothing": with four of each. */
  private static void refusedWhereFull() {
    Maker nineteen = () -> full(4);
    refused("full: a fifth party", Check.UNSUPPORTED, nineteen, x -> x.party());
    refused("full: a fifth district", Check.UNSUPPORTED, nineteen, x -> x.district(1));
    refusedDistricts("full", nineteen, 2);
    refusedLists("full", nineteen, 4, 4);
    refusedAmounts("full", nineteen);
    refusedSettings("full", nineteen, 4);
    refusedShares("full", nineteen, 4);
    Maker twenty = () -> full(5);
    refused("full of 20: a fifth party", Check.UNSUPPORTED, twenty, x -> x.party());
    refusedDistricts("full of 20", twenty, 1);
  }

  /** "where several exceptions that a call names fit, it is the one that it names first" */
  private static void firstNamedOfDistrict() {
    for (int seats : new int[] {FAR[0], -1, 0, 2, 20, 21, FAR[1]}) {
      TwoWaySeats x = full(4);
      String call = "a fifth with " + seats;
      Check.refused(call, Check.ARGUMENT, () -> x.district(seats));
    }
    TwoWaySeats x = full(4);
    Check.refused("a fifth with 1, 20 together", Check.UNSUPPORTED, () -> x.district(1));
    TwoWaySeats y = full(5);
    Check.refused("a fifth with 1, 21 together", Check.ARGUMENT, () -> y.district(1));
    TwoWaySeats z = full(1);
    Check.refused("a fifth with 4, 20 together", Check.UNSUPPORTED, () -> z.district(4));
    Check.refused("a fifth with 5, 21 together", Check.ARGUMENT, () -> z.district(5));
  }

  /** ".. it is the one that it names first": the index before the amount. */
  private static void firstNamedOfIndexes() {
    TwoWaySeats x = open();
    for (int n : new int[] {FAR[0], -1, 501, FAR[1]}) {
      Check.refused("votes, district 3", Check.INDEX, () -> x.votes(3, 0, n));
      Check.refused("votes, district -1", Check.INDEX, () -> x.votes(-1, 0, n));
      Check.refused("votes, party 3", Check.INDEX, () -> x.votes(0, 3, n));
      Check.refused("votes, party -1", Check.INDEX, () -> x.votes(0, -1, n));
      Check.refused("votes, amount alone", Check.ARGUMENT, () -> x.votes(0, 0, n));
    }
    for (int n : new int[] {FAR[0], -1, 21, FAR[1]}) {
      Check.refused("propose, district 3", Check.INDEX, () -> x.propose(3, 0, n));
      Check.refused("propose, district -1", Check.INDEX, () -> x.propose(-1, 0, n));
      Check.refused("propose, party 3", Check.INDEX, () -> x.propose(0, 3, n));
      Check.refused("propose, party -1", Check.INDEX, () -> x.propose(0, -1, n));
      Check.refused("propose, amount alone", Check.ARGUMENT, () -> x.propose(0, 0, n));
    }
  }

  /** ".. it is the one that it names first": the state before the index, that before no number. */
  private static void firstNamedOfStates() {
    for (int k : new int[] {FAR[0], -1, 0, 2, 3, FAR[1]}) {
      TwoWaySeats none = voteless();
      Check.refused("share " + k + ", nothing to share", Check.STATE, () -> none.share(k));
      Check.refused("tied " + k + ", nothing to share", Check.STATE, () -> none.tied(k));
      for (TwoWaySeats x : new TwoWaySeats[] {open(), blocked()}) {
        Check.refused("seats of district " + k, Check.STATE, () -> x.seats(k, 0, false));
        Check.refused("seats of party " + k, Check.STATE, () -> x.seats(0, k, true));
        Check.refused("number " + k, Check.STATE, () -> x.number(false, k, false));
        Check.refused("number of party " + k, Check.STATE, () -> x.number(true, k, false));
      }
      for (TwoWaySeats x : new TwoWaySeats[] {open(), shared()}) {
        Check.refused("blocks " + k, Check.STATE, () -> x.blocks(false, k));
        Check.refused("blocks of party " + k, Check.STATE, () -> x.blocks(true, k));
      }
    }
    TwoWaySeats x = shared();
    Check.refused("party 2 has no number", Check.NO_ELEMENT, () -> x.number(true, 2, false));
    Check.refused("there is no party 3", Check.INDEX, () -> x.number(true, 3, false));
    Check.due("but a district 2", 1, x.number(false, 2, true));
  }

  /** "An object is used for at most 512 calls after it has been made" */
  private static void allCallsAreAnswered() {
    TwoWaySeats x = new TwoWaySeats();
    x.district(2);
    x.party();
    x.party();
    int calls = 3;
    for (int round = 0; calls + 4 <= 511; round++) {
      int one = round * 7 % 100;
      int other = 1 + round * 13 % 50;
      x.votes(0, 0, one);
      x.votes(0, 1, other);
      x.solve();
      int due = one >= 3 * other ? 2 : 3 * one >= other ? 1 : 0;
      Check.due("after " + calls + " calls", due, x.seats(0, 0, false));
      calls += 4;
    }
    Check.due("calls so far", 511, calls);
    Check.due("the 512th call", true, x.unique());
  }
}
