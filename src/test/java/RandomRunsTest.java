/**
 * Long runs of calls, right and wrong ones, on a TwoWaySeats and on the slow Reference: each answer
 * and each exception must be the same. The runs are the same every time.
 */
public final class RandomRunsTest {
  private static final int RUNS = 600;

  /** What an object answers later is free. */
  private static final int CALLS = 512;

  private long seed;
  private int calls;
  private int kind;
  private TwoWaySeats one;
  private Reference two;
  private StringBuilder told;

  public static void main(String[] args) {
    RandomRunsTest test = new RandomRunsTest();
    for (int run = 1; run <= RUNS && Check.isClean(); run++) {
      test.run(run);
    }
    Check.end();
  }

  private int below(int n) {
    seed = seed * 6364136223846793005L + 1442695040888963407L;
    return (int) ((seed >>> 33) % n);
  }

  private void run(int number) {
    seed = number * 1000003L;
    kind = below(6);
    calls = 0;
    one = new TwoWaySeats();
    two = new Reference();
    told = new StringBuilder("run " + number + ":");
    int districts = 1 + below(4);
    int parties = 1 + below(4);
    for (int d = 0; d < districts; d++) {
      int seats = 1 + below(below(3) == 0 ? 5 : 3);
      same("district(" + seats + ")", () -> one.district(seats), () -> two.district(seats));
    }
    for (int p = 0; p < parties; p++) {
      same("party()", () -> one.party(), () -> two.party());
    }
    for (int d = 0; d < districts; d++) {
      for (int p = 0; p < parties; p++) {
        votes(d, p, someVotes());
      }
    }
    askAll();
    for (int turn = 0; turn < CALLS && calls < CALLS && Check.isClean(); turn++) {
      anyCall();
    }
  }

  private void same(String call, Check.Call mine, Check.Call due) {
    if (calls == CALLS) {
      return;
    }
    calls++;
    told.append(" ").append(call);
    String got = Check.outcome(mine);
    String want = Check.outcome(due);
    if (!got.equals(want)) {
      Check.due(told.toString(), want, got);
    }
  }

  /** Few different votes make ties; many zeros make blocks. */
  private int someVotes() {
    switch (kind) {
      case 0:
        return below(501);
      case 1:
        return 10 * below(4);
      case 2:
        return 1 + below(3);
      case 3:
        return below(3) == 0 ? 1 + below(500) : 0;
      case 4:
        return new int[] {0, 15, 21, 35, 105, 210, 315, 420}[below(8)];
      default:
        return below(2) == 0 ? 500 - below(3) : below(3);
    }
  }

  private void votes(int d, int p, int n) {
    same("votes(" + d + ", " + p + ", " + n + ")",
        () -> { one.votes(d, p, n); return "-"; },
        () -> { two.votes(d, p, n); return "-"; });
  }

  /** An index that is mostly right. */
  private int index(boolean party) {
    int count = two.count(party);
    return below(20) == 0 || count == 0 ? below(7) - 1 : below(count);
  }

  private void anyCall() {
    int what = below(28);
    if (what < 8) {
      changeSome(what);
    } else if (what < 14) {
      solveAndAsk();
    } else if (what < 20) {
      ask();
    } else if (what < 26) {
      proposeSome();
    } else {
      askAll();
    }
  }

  private void changeSome(int what) {
    int n = below(30) - 2;
    int party = index(true);
    int position = below(20) == 0 ? below(7) - 1 : below(4);
    int thousandths = below(4) == 0 ? below(1100) - 50 : below(3) == 0 ? below(300) : 0;
    boolean on = below(2) == 0;
    switch (what) {
      case 0:
        if (below(4) == 0) {
          int seats = below(3) == 0 ? n : 1 + below(4);
          same("district(" + seats + ")", () -> one.district(seats), () -> two.district(seats));
        }
        break;
      case 1:
        if (below(4) == 0) {
          same("party()", () -> one.party(), () -> two.party());
        }
        break;
      case 2:
        same("weigh(" + on + ")",
            () -> { one.weigh(on); return "-"; },
            () -> { two.weigh(on); return "-"; });
        break;
      case 3:
        same("threshold(" + thousandths + ")",
            () -> { one.threshold(thousandths); return "-"; },
            () -> { two.threshold(thousandths); return "-"; });
        break;
      case 4:
        same("lot(" + position + ", " + party + ")",
            () -> { one.lot(position, party); return "-"; },
            () -> { two.lot(position, party); return "-"; });
        break;
      default:
        votes(index(false), party, below(15) == 0 ? below(600) - 50 : someVotes());
    }
  }

  private void solveAndAsk() {
    // A run of the reference takes long where many tables fit.
    if (below(3) > 0) {
      same("solve()", () -> one.solve(), () -> two.solve());
    }
    for (int k = 0; k < 4; k++) {
      ask();
    }
  }

  private void ask() {
    int d = index(false);
    int p = index(true);
    boolean party = below(2) == 0;
    boolean other = below(2) == 0;
    int k = party ? p : d;
    switch (below(7)) {
      case 0:
        same("share(" + p + ")", () -> one.share(p), () -> two.share(p));
        break;
      case 1:
        same("tied(" + p + ")", () -> one.tied(p), () -> two.tied(p));
        break;
      case 2:
        same("seats(" + d + ", " + p + ", " + other + ")",
            () -> one.seats(d, p, other), () -> two.seats(d, p, other));
        break;
      case 3:
        same("unique()", () -> one.unique(), () -> two.unique());
        break;
      case 4:
        same("number(" + party + ", " + k + ", " + other + ")",
            () -> one.number(party, k, other), () -> two.number(party, k, other));
        break;
      case 5:
        same("blocks(" + party + ", " + k + ")",
            () -> one.blocks(party, k), () -> two.blocks(party, k));
        break;
      default:
        same("count(" + party + ")", () -> one.count(party), () -> two.count(party));
    }
  }

  private void proposeSome() {
    boolean last = below(2) == 0;
    boolean copied = below(2) == 0 && !Check.outcome(() -> two.unique()).startsWith("throws");
    if (copied) {
      for (int d = 0; d < two.count(false); d++) {
        for (int p = 0; p < two.count(true); p++) {
          propose(d, p, two.seats(d, p, last));
        }
      }
      if (below(2) == 0 && two.count(false) > 0 && two.count(true) > 0) {
        goAlongSome();
      }
    } else {
      propose(index(false), index(true), below(12) == 0 ? below(30) - 4 : below(5));
    }
    same("judge()", () -> one.judge(), () -> two.judge());
  }

  /** A table that fits still, if it has these seats: mostly one that does not obey. */
  private void goAlongSome() {
    int d = below(two.count(false));
    int e = below(two.count(false));
    int p = below(two.count(true));
    int q = below(two.count(true));
    if (d == e || p == q || two.seats(d, q, false) == 0 || two.seats(e, p, false) == 0) {
      return;
    }
    for (int k = 0; k < two.count(false); k++) {
      for (int j = 0; j < two.count(true); j++) {
        int change = k != d && k != e || j != p && j != q ? 0 : k == d == (j == p) ? 1 : -1;
        propose(k, j, two.seats(k, j, false) + change);
      }
    }
  }

  private void propose(int d, int p, int n) {
    same("propose(" + d + ", " + p + ", " + n + ")",
        () -> { one.propose(d, p, n); return "-"; },
        () -> { two.propose(d, p, n); return "-"; });
  }

  private void askAll() {
    same("solve()", () -> one.solve(), () -> two.solve());
    same("unique()", () -> one.unique(), () -> two.unique());
    for (int p = 0; p < two.count(true); p++) {
      int q = p;
      same("share(" + q + ")", () -> one.share(q), () -> two.share(q));
      same("tied(" + q + ")", () -> one.tied(q), () -> two.tied(q));
      askOf(true, q);
    }
    for (int d = 0; d < two.count(false); d++) {
      askOf(false, d);
      for (int p = 0; p < two.count(true); p++) {
        int e = d;
        int q = p;
        same("seats(" + e + ", " + q + ", false)",
            () -> one.seats(e, q, false), () -> two.seats(e, q, false));
        same("seats(" + e + ", " + q + ", true)",
            () -> one.seats(e, q, true), () -> two.seats(e, q, true));
      }
    }
  }

  private void askOf(boolean party, int k) {
    same("number(" + party + ", " + k + ", false)",
        () -> one.number(party, k, false), () -> two.number(party, k, false));
    same("number(" + party + ", " + k + ", true)",
        () -> one.number(party, k, true), () -> two.number(party, k, true));
    same("blocks(" + party + ", " + k + ")",
        () -> one.blocks(party, k), () -> two.blocks(party, k));
  }
}
