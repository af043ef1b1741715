/**
 * Big parliaments, with votes that are all alike, far apart or multiples of each other: what is
 * solved must be what the slow Reference finds among all tables. The same ones every time.
 */
public final class BigTablesTest {
  private static final int PARLIAMENTS = 500;
  private static final int[] MULTIPLES = {15, 21, 35, 105, 45, 63, 315};

  private static long seed = 7;

  public static void main(String[] args) {
    int shared = 0;
    int several = 0;
    for (int k = 0; k < PARLIAMENTS; k++) {
      Reference due = compare("parliament " + k);
      shared += due.tables() > 0 ? 1 : 0;
      several += due.tables() > 1 ? 1 : 0;
    }
    Check.due("enough tables seen", true, shared > PARLIAMENTS / 2);
    Check.due("enough of more than one seen", true, several > PARLIAMENTS / 20);
    Check.end();
  }

  private static int below(int n) {
    seed = seed * 6364136223846793005L + 1442695040888963407L;
    return (int) ((seed >>> 33) % n);
  }

  private static int votes(int kind) {
    switch (kind) {
      case 0:
        return below(501);
      case 1:
        return 499 + below(2);
      case 2:
        return below(2) == 0 ? 500 - below(5) : 1 + below(2);
      case 3:
        return MULTIPLES[below(MULTIPLES.length)];
      default:
        return below(4) == 0 ? 0 : 100 * (1 + below(3));
    }
  }

  private static Reference compare(String name) {
    TwoWaySeats x = new TwoWaySeats();
    Reference due = new Reference();
    int districts = 2 + below(3);
    int parties = 2 + below(3);
    int left = 20;
    for (int d = 0; d < districts; d++) {
      int most = Math.min(9, left - (districts - d - 1));
      int seats = d == districts - 1 && below(2) == 0 ? left : 1 + below(most);
      x.district(seats);
      due.district(seats);
      left -= seats;
    }
    int kind = below(5);
    for (int p = 0; p < parties; p++) {
      x.party();
      due.party();
      for (int d = 0; d < districts; d++) {
        int n = votes(kind);
        x.votes(d, p, n);
        due.votes(d, p, n);
      }
    }
    same(name + ", solve", () -> x.solve(), () -> due.solve());
    same(name + ", unique", () -> x.unique(), () -> due.unique());
    for (int d = 0; d < districts; d++) {
      for (int p = 0; p < parties; p++) {
        int e = d;
        int q = p;
        String list = name + ", list " + d + " " + p;
        same(list + ", first", () -> x.seats(e, q, false), () -> due.seats(e, q, false));
        same(list + ", last", () -> x.seats(e, q, true), () -> due.seats(e, q, true));
      }
    }
    for (int k = 0; k < 8; k++) {
      boolean party = k >= 4;
      int j = k % 4;
      String place = name + (party ? ", party " : ", district ") + j;
      same(place, () -> x.number(party, j, false), () -> due.number(party, j, false));
      same(place, () -> x.number(party, j, true), () -> due.number(party, j, true));
      same(place, () -> x.blocks(party, j), () -> due.blocks(party, j));
    }
    return due;
  }

  private static void same(String what, Check.Call mine, Check.Call due) {
    Check.due(what, Check.outcome(due), Check.outcome(mine));
  }
}
