import java.math.BigInteger;
import java.util.ArrayList;
import java.util.List;
import java.util.NoSuchElementException;

/**
 * The document's words taken one by one, without any thought of speed: all tables that fit are
 * listed, all rings are tried in each, and all ways are gone. It has the face of TwoWaySeats.
 */
final class Reference {
  private final List<Integer> sizes = new ArrayList<>();
  private int parties = 0;
  private final int[][] told = new int[4][4];
  private final int[][] counting = new int[4][4];
  private final int[][] proposal = new int[4][4];
  private final int[] partyAt = {-1, -1, -1, -1};
  private boolean weighed = false;
  private int threshold = 0;
  private boolean solved = false;
  private List<int[][]> obeying = new ArrayList<>();

  /** A fraction that is 0 or more. */
  private static final class Part implements Comparable<Part> {
    final BigInteger above;
    final BigInteger below;

    Part(BigInteger above, BigInteger below) {
      BigInteger common = above.gcd(below);
      this.above = above.divide(common);
      this.below = below.divide(common);
    }

    static Part of(long above, long below) {
      return new Part(BigInteger.valueOf(above), BigInteger.valueOf(below));
    }

    Part times(Part other) {
      return new Part(above.multiply(other.above), below.multiply(other.below));
    }

    Part plus(Part other) {
      return new Part(
          above.multiply(other.below).add(other.above.multiply(below)),
          below.multiply(other.below));
    }

    @Override
    public int compareTo(Part other) {
      return above.multiply(other.below).compareTo(other.above.multiply(below));
    }
  }

  private static final Part ZERO = Part.of(0, 1);
  private static final Part ONE = Part.of(1, 1);

  int district(int seats) {
    if (seats < 1 || seats > 20 || seats + all() > 20) {
      throw new IllegalArgumentException();
    }
    if (sizes.size() == 4) {
      throw new UnsupportedOperationException();
    }
    solved = false;
    sizes.add(seats);
    return sizes.size() - 1;
  }

  int party() {
    if (parties == 4) {
      throw new UnsupportedOperationException();
    }
    solved = false;
    return parties++;
  }

  void votes(int district, int party, int n) {
    needList(district, party);
    if (n < 0 || n > 500) {
      throw new IllegalArgumentException();
    }
    solved = false;
    told[district][party] = n;
    countAgain();
  }

  void weigh(boolean on) {
    solved = false;
    weighed = on;
  }

  void threshold(int thousandths) {
    if (thousandths < 0 || thousandths > 1000) {
      throw new IllegalArgumentException();
    }
    solved = false;
    threshold = thousandths;
    countAgain();
  }

  void lot(int position, int party) {
    if (position < 0 || position > 3 || party < 0 || party >= parties) {
      throw new IndexOutOfBoundsException();
    }
    solved = false;
    for (int k = 0; k < 4; k++) {
      if (partyAt[k] == party) {
        partyAt[k] = -1;
      }
    }
    partyAt[position] = party;
  }

  int count(boolean ofParties) {
    return ofParties ? parties : sizes.size();
  }

  int share(int party) {
    needSomething();
    needParty(party);
    return shares()[party];
  }

  boolean tied(int party) {
    needSomething();
    needParty(party);
    int[] shares = shares();
    for (int other = 0; other < parties; other++) {
      if (other != party && (meet(party, other, shares) || meet(other, party, shares))) {
        return true;
      }
    }
    return false;
  }

  boolean solve() {
    needSomething();
    solved = true;
    obeying = new ArrayList<>();
    for (int[][] table : fitting()) {
      if (!hasGain(table)) {
        obeying.add(table);
      }
    }
    return !obeying.isEmpty();
  }

  int seats(int district, int party, boolean last) {
    needTable();
    needList(district, party);
    return extreme(last)[district][party];
  }

  boolean unique() {
    needTable();
    return obeying.size() == 1;
  }

  long number(boolean party, int k, boolean below) {
    needTable();
    if (k < 0 || k >= count(party)) {
      throw new IndexOutOfBoundsException();
    }
    Part number = numbers()[party ? 4 + k : k];
    if (number.above.signum() == 0) {
      throw new NoSuchElementException();
    }
    return (below ? number.below : number.above).longValueExact();
  }

  boolean blocks(boolean party, int k) {
    if (!solved || !obeying.isEmpty()) {
      throw new IllegalStateException();
    }
    if (k < 0 || k >= count(party)) {
      throw new IndexOutOfBoundsException();
    }
    int[] shares = shares();
    for (int set = 0; set < 16; set++) {
      int seats = 0;
      int theirs = 0;
      boolean[] with = new boolean[4];
      for (int d = 0; d < sizes.size(); d++) {
        if ((set & 1 << d) != 0) {
          seats += sizes.get(d);
          for (int p = 0; p < parties; p++) {
            with[p] = with[p] || of(d, p) > 0;
          }
        }
      }
      for (int p = 0; p < parties; p++) {
        theirs += with[p] ? shares[p] : 0;
      }
      if (set < 1 << sizes.size() && seats > theirs) {
        return party ? with[k] : (set & 1 << k) != 0;
      }
    }
    throw new AssertionError("no table and no block");
  }

  void propose(int district, int party, int n) {
    needList(district, party);
    if (n < 0 || n > 20) {
      throw new IllegalArgumentException();
    }
    proposal[district][party] = n;
  }

  int judge() {
    needSomething();
    int[] shares = shares();
    boolean two = false;
    boolean three = false;
    for (int d = 0; d < sizes.size(); d++) {
      int sum = 0;
      for (int p = 0; p < parties; p++) {
        if (proposal[d][p] > 0 && of(d, p) == 0) {
          return 1;
        }
        sum += proposal[d][p];
      }
      two = two || sum != sizes.get(d);
    }
    for (int p = 0; p < parties; p++) {
      int sum = 0;
      for (int d = 0; d < sizes.size(); d++) {
        sum += proposal[d][p];
      }
      three = three || sum != shares[p];
    }
    return two ? 2 : three ? 3 : hasGain(proposal) ? 4 : 0;
  }

  /** How many tables obey: not of the face, but it tells a test how much it has seen. */
  int tables() {
    return obeying.size();
  }

  private void needList(int district, int party) {
    if (district < 0 || district >= sizes.size() || party < 0 || party >= parties) {
      throw new IndexOutOfBoundsException();
    }
  }

  private void needParty(int party) {
    if (party < 0 || party >= parties) {
      throw new IndexOutOfBoundsException();
    }
  }

  private void needTable() {
    if (!solved || obeying.isEmpty()) {
      throw new IllegalStateException();
    }
  }

  private void needSomething() {
    boolean any = false;
    for (int p = 0; p < parties; p++) {
      any = any || weight(p).compareTo(ZERO) > 0;
    }
    if (sizes.isEmpty() || !any) {
      throw new IllegalStateException();
    }
  }

  private int all() {
    int sum = 0;
    for (int size : sizes) {
      sum += size;
    }
    return sum;
  }

  private void countAgain() {
    int all = 0;
    int[] own = new int[4];
    for (int d = 0; d < 4; d++) {
      for (int p = 0; p < 4; p++) {
        all += told[d][p];
        own[p] += told[d][p];
      }
    }
    for (int d = 0; d < 4; d++) {
      for (int p = 0; p < 4; p++) {
        boolean out = 1000 * own[p] < threshold * all;
        counting[d][p] = out ? 0 : told[d][p];
      }
    }
  }

  /** The votes of a list, none if its party is out. */
  private int of(int district, int party) {
    return counting[district][party];
  }

  private Part weight(int party) {
    Part sum = ZERO;
    for (int d = 0; d < sizes.size(); d++) {
      sum = sum.plus(Part.of(of(d, party), weighed ? sizes.get(d) : 1));
    }
    return sum;
  }

  private List<Integer> order() {
    List<Integer> order = new ArrayList<>();
    for (int k = 0; k < 4; k++) {
      if (partyAt[k] >= 0) {
        order.add(partyAt[k]);
      }
    }
    for (int p = 0; p < parties; p++) {
      if (!order.contains(p)) {
        order.add(p);
      }
    }
    return order;
  }

  private int[] shares() {
    int[] shares = new int[4];
    for (int seat = 0; seat < all(); seat++) {
      int best = -1;
      Part most = null;
      for (int p : order()) {
        Part here = weight(p).times(Part.of(1, 2 * shares[p] + 1));
        if (most == null || here.compareTo(most) > 0) {
          most = here;
          best = p;
        }
      }
      shares[best]++;
    }
    return shares;
  }

  private boolean meet(int one, int other, int[] shares) {
    if (shares[one] == 0) {
      return false;
    }
    Part here = weight(one).times(Part.of(1, 2 * shares[one] - 1));
    Part there = weight(other).times(Part.of(1, 2 * shares[other] + 1));
    return here.compareTo(there) == 0 && here.compareTo(ZERO) > 0;
  }

  private List<int[][]> fitting() {
    List<int[][]> all = new ArrayList<>();
    int[] left = new int[4];
    for (int d = 0; d < sizes.size(); d++) {
      left[d] = sizes.get(d);
    }
    list(all, new int[4][4], left, shares(), 0);
    return all;
  }

  private void list(List<int[][]> all, int[][] table, int[] ofDistricts, int[] ofParties, int k) {
    if (k == 16) {
      int missing = 0;
      for (int j = 0; j < 4; j++) {
        missing += ofDistricts[j] + ofParties[j];
      }
      if (missing == 0) {
        int[][] copy = new int[4][];
        for (int d = 0; d < 4; d++) {
          copy[d] = table[d].clone();
        }
        all.add(copy);
      }
      return;
    }
    int d = k / 4;
    int p = k % 4;
    if (p == 0 && d > 0 && ofDistricts[d - 1] > 0) {
      return;
    }
    int most = of(d, p) == 0 ? 0 : Math.min(ofDistricts[d], ofParties[p]);
    for (int n = 0; n <= most; n++) {
      table[d][p] = n;
      ofDistricts[d] -= n;
      ofParties[p] -= n;
      list(all, table, ofDistricts, ofParties, k + 1);
      ofDistricts[d] += n;
      ofParties[p] += n;
    }
    table[d][p] = 0;
  }

  private boolean hasGain(int[][] table) {
    return gains(table, new ArrayList<>(), new ArrayList<>());
  }

  /** Tries all rings that begin with these districts and parties, from any first district. */
  private boolean gains(int[][] table, List<Integer> ds, List<Integer> ps) {
    if (ds.size() >= 2 && gain(table, ds, ps).compareTo(ONE) > 0) {
      return true;
    }
    for (int d = 0; d < sizes.size(); d++) {
      for (int p = 0; p < parties; p++) {
        if (!ds.contains(d) && !ps.contains(p) && of(d, p) > 0) {
          ds.add(d);
          ps.add(p);
          boolean found = gains(table, ds, ps);
          ds.remove(ds.size() - 1);
          ps.remove(ps.size() - 1);
          if (found) {
            return true;
          }
        }
      }
    }
    return false;
  }

  /** 0 if one can't go along it. */
  private Part gain(int[][] table, List<Integer> ds, List<Integer> ps) {
    BigInteger above = BigInteger.ONE;
    BigInteger below = BigInteger.ONE;
    for (int k = 0; k < ds.size(); k++) {
      int d = ds.get(k);
      int next = ds.get((k + 1) % ds.size());
      int p = ps.get(k);
      if (table[next][p] == 0) {
        return ZERO;
      }
      above = above.multiply(BigInteger.valueOf((long) of(d, p) * (2 * table[next][p] - 1)));
      below = below.multiply(BigInteger.valueOf((long) of(next, p) * (2 * table[d][p] + 1)));
    }
    return new Part(above, below);
  }

  private int[][] extreme(boolean last) {
    int[][] best = obeying.get(0);
    for (int[][] table : obeying) {
      for (int k = 0; k < 16; k++) {
        int more = table[k / 4][k % 4] - best[k / 4][k % 4];
        if (more != 0) {
          if (more > 0 != last) {
            best = table;
          }
          break;
        }
      }
    }
    return best;
  }

  /** The greatest products of 0 ways, of 1 way, .. of 12 ways, which is more than any needs. */
  private Part[] numbers() {
    int[][] table = extreme(false);
    Part[] most = new Part[8];
    Part[] now = new Part[8];
    for (int k = 0; k < 8; k++) {
      now[k] = k < sizes.size() ? ONE : ZERO;
      most[k] = now[k];
    }
    for (int ways = 1; ways <= 12; ways++) {
      Part[] next = {ZERO, ZERO, ZERO, ZERO, ZERO, ZERO, ZERO, ZERO};
      for (int d = 0; d < sizes.size(); d++) {
        for (int p = 0; p < parties; p++) {
          if (of(d, p) > 0) {
            Part there = now[d].times(Part.of(of(d, p), 2 * table[d][p] + 1));
            next[4 + p] = there.compareTo(next[4 + p]) > 0 ? there : next[4 + p];
          }
          if (table[d][p] > 0) {
            Part back = now[4 + p].times(Part.of(2 * table[d][p] - 1, of(d, p)));
            next[d] = back.compareTo(next[d]) > 0 ? back : next[d];
          }
        }
      }
      for (int k = 0; k < 8; k++) {
        most[k] = next[k].compareTo(most[k]) > 0 ? next[k] : most[k];
      }
      now = next;
    }
    return most;
  }
}
