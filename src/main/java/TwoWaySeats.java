import java.util.Arrays;
import java.util.NoSuchElementException;

/**
 * Seats of a parliament, shared among districts and parties at once, with the numbers that prove
 * the table, or the districts and parties that make it impossible. ../shared/DOC.md says what each
 * call promises.
 */
public final class TwoWaySeats {
  private static final int MOST = 4;
  private static final int LISTS = MOST * MOST;
  private static final int MOST_SEATS = 20;
  private static final int MOST_VOTES = 500;
  private static final int THOUSAND = 1000;

  private int districts;
  private int parties;
  private int barrier;
  private boolean weighed;
  /** The seats of each district. */
  private final int[] sizes;
  /** The votes of each list, as they were told: list (d, p) stands at d * MOST + p. */
  private final int[] cast;
  private final int[] proposal;
  /** Where each party stands in the order: its position, or MOST + its number if it has none. */
  private final int[] ranks;

  /** The votes of each list that count: none for a party that is out. */
  private final int[] counted;
  private final long[] weights;
  private final int[] shares;

  private boolean solved;
  private boolean fits;
  private int blockedDistricts;
  private int blockedParties;
  private final int[] first;
  private final int[] last;
  private final Filler filler;
  private final Ring ring;
  private final Numbers numbers;

  public TwoWaySeats() {
    sizes = new int[MOST];
    cast = new int[LISTS];
    proposal = new int[LISTS];
    ranks = new int[MOST];
    for (int p = 0; p < MOST; p++) {
      ranks[p] = MOST + p;
    }
    counted = new int[LISTS];
    weights = new long[MOST];
    shares = new int[MOST];
    first = new int[LISTS];
    last = new int[LISTS];
    filler = new Filler();
    ring = new Ring();
    numbers = new Numbers();
  }

  public int district(int seats) throws IllegalArgumentException, UnsupportedOperationException {
    if (seats < 1 || seats > MOST_SEATS || allSeats() + seats > MOST_SEATS) {
      throw new IllegalArgumentException();
    }
    if (districts >= MOST) {
      throw new UnsupportedOperationException();
    }
    sizes[districts] = seats;
    districts++;
    solved = false;
    return districts - 1;
  }

  public int party() throws UnsupportedOperationException {
    if (parties >= MOST) {
      throw new UnsupportedOperationException();
    }
    parties++;
    solved = false;
    return parties - 1;
  }

  public void votes(int district, int party, int n)
      throws IndexOutOfBoundsException, IllegalArgumentException {
    if (!isThere(false, district) || !isThere(true, party)) {
      throw new IndexOutOfBoundsException();
    }
    if (n < 0 || n > MOST_VOTES) {
      throw new IllegalArgumentException();
    }
    cast[district * MOST + party] = n;
    solved = false;
  }

  public void weigh(boolean on) {
    weighed = on;
    solved = false;
  }

  public void threshold(int thousandths) throws IllegalArgumentException {
    if (thousandths < 0 || thousandths > THOUSAND) {
      throw new IllegalArgumentException();
    }
    barrier = thousandths;
    solved = false;
  }

  public void lot(int position, int party) throws IndexOutOfBoundsException {
    if (position < 0 || position >= MOST || !isThere(true, party)) {
      throw new IndexOutOfBoundsException();
    }
    for (int p = 0; p < MOST; p++) {
      if (ranks[p] == position) {
        ranks[p] = MOST + p;
      }
    }
    ranks[party] = position;
    solved = false;
  }

  public int count(boolean parties) {
    return parties ? this.parties : districts;
  }

  public int share(int party) throws IllegalStateException, IndexOutOfBoundsException {
    if (!shareOut()) {
      throw new IllegalStateException();
    }
    if (!isThere(true, party)) {
      throw new IndexOutOfBoundsException();
    }
    return shares[party];
  }

  public boolean tied(int party) throws IllegalStateException, IndexOutOfBoundsException {
    if (!shareOut()) {
      throw new IllegalStateException();
    }
    if (!isThere(true, party)) {
      throw new IndexOutOfBoundsException();
    }
    for (int p = 0; p < parties; p++) {
      if (p != party && (couldHandOver(party, p) || couldHandOver(p, party))) {
        return true;
      }
    }
    return false;
  }

  public boolean solve() throws IllegalStateException {
    if (!shareOut()) {
      throw new IllegalStateException();
    }
    findBlock();
    fits = blockedDistricts == 0;
    if (fits) {
      findTables();
    }
    solved = true;
    return fits;
  }

  public int seats(int district, int party, boolean last)
      throws IllegalStateException, IndexOutOfBoundsException {
    if (!solved || !fits) {
      throw new IllegalStateException();
    }
    if (!isThere(false, district) || !isThere(true, party)) {
      throw new IndexOutOfBoundsException();
    }
    int list = district * MOST + party;
    return last ? this.last[list] : first[list];
  }

  public boolean unique() throws IllegalStateException {
    if (!solved || !fits) {
      throw new IllegalStateException();
    }
    for (int list = 0; list < LISTS; list++) {
      if (first[list] != last[list]) {
        return false;
      }
    }
    return true;
  }

  public long number(boolean party, int k, boolean below)
      throws IllegalStateException, IndexOutOfBoundsException, NoSuchElementException {
    if (!solved || !fits) {
      throw new IllegalStateException();
    }
    if (!isThere(party, k)) {
      throw new IndexOutOfBoundsException();
    }
    int place = party ? MOST + k : k;
    if (!numbers.isReached(place)) {
      throw new NoSuchElementException();
    }
    return below ? numbers.lower(place) : numbers.upper(place);
  }

  public boolean blocks(boolean party, int k)
      throws IllegalStateException, IndexOutOfBoundsException {
    if (!solved || fits) {
      throw new IllegalStateException();
    }
    if (!isThere(party, k)) {
      throw new IndexOutOfBoundsException();
    }
    return isIn(party ? blockedParties : blockedDistricts, k);
  }

  public void propose(int district, int party, int n)
      throws IndexOutOfBoundsException, IllegalArgumentException {
    if (!isThere(false, district) || !isThere(true, party)) {
      throw new IndexOutOfBoundsException();
    }
    if (n < 0 || n > MOST_SEATS) {
      throw new IllegalArgumentException();
    }
    proposal[district * MOST + party] = n;
  }

  public int judge() throws IllegalStateException {
    if (!shareOut()) {
      throw new IllegalStateException();
    }
    if (proposesSeatsWithoutVotes()) {
      return 1;
    }
    if (!proposesInAll(sizes, MOST, 1)) {
      return 2;
    }
    if (!proposesInAll(shares, 1, MOST)) {
      return 3;
    }
    return ring.isFound(counted, proposal, Ring.NEITHER) ? 4 : 0;
  }

  private boolean isThere(boolean party, int k) {
    return k >= 0 && k < (party ? parties : districts);
  }

  private static boolean isIn(int set, int k) {
    return (set >> k & 1) != 0;
  }

  private int allSeats() {
    int sum = 0;
    for (int d = 0; d < MOST; d++) {
      sum += sizes[d];
    }
    return sum;
  }

  /** Works out the votes that count, the weights and the shares: whether there is what to share. */
  private boolean shareOut() {
    countVotes();
    boolean any = false;
    for (int p = 0; p < MOST; p++) {
      weights[p] = weightOf(p);
      shares[p] = 0;
      any = any || weights[p] > 0;
    }
    // Without districts there are no votes, so no weights either.
    if (!any) {
      return false;
    }
    for (int seat = allSeats(); seat > 0; seat--) {
      shares[nextParty()]++;
    }
    return true;
  }

  private void countVotes() {
    int all = 0;
    for (int list = 0; list < LISTS; list++) {
      all += cast[list];
    }
    for (int p = 0; p < MOST; p++) {
      int own = 0;
      for (int d = 0; d < MOST; d++) {
        own += cast[d * MOST + p];
      }
      boolean out = THOUSAND * own < barrier * all;
      for (int d = 0; d < MOST; d++) {
        counted[d * MOST + p] = out ? 0 : cast[d * MOST + p];
      }
    }
  }

  private long weightOf(int party) {
    long sum = 0;
    for (int d = 0; d < districts; d++) {
      long votes = counted[d * MOST + party];
      sum += weighed ? votes * seatsOfOthersMultiplied(d) : votes;
    }
    return sum;
  }

  /**
   * All weights times the product of all districts' seats are whole numbers, and only how weights
   * compare matters: so votes / seats becomes votes times the seats of the other districts.
   */
  private long seatsOfOthersMultiplied(int district) {
    long product = 1;
    for (int d = 0; d < districts; d++) {
      if (d != district) {
        product *= sizes[d];
      }
    }
    return product;
  }

  private int nextParty() {
    int best = 0;
    for (int p = 1; p < MOST; p++) {
      if (goesBefore(p, best)) {
        best = p;
      }
    }
    return best;
  }

  private boolean goesBefore(int party, int other) {
    long one = weights[party] * (2 * shares[other] + 1);
    long two = weights[other] * (2 * shares[party] + 1);
    return one > two || one == two && ranks[party] < ranks[other];
  }

  /** Whether the last seat of one party could as well have been the next one of the other. */
  private boolean couldHandOver(int from, int to) {
    return shares[from] > 0
        && weights[from] > 0
        && weights[from] * (2 * shares[to] + 1) == weights[to] * (2 * shares[from] - 1);
  }

  /** The sets of districts are tried by their sums of 1 << district, so the first is the block. */
  private void findBlock() {
    for (int set = 1; set < 1 << districts; set++) {
      int reached = partiesWithVotesIn(set);
      if (seatsOf(set, sizes) > seatsOf(reached, shares)) {
        blockedDistricts = set;
        blockedParties = reached;
        return;
      }
    }
    blockedDistricts = 0;
    blockedParties = 0;
  }

  private int partiesWithVotesIn(int districtSet) {
    int set = 0;
    for (int list = 0; list < LISTS; list++) {
      if (counted[list] > 0 && isIn(districtSet, list / MOST)) {
        set |= 1 << list % MOST;
      }
    }
    return set;
  }

  private static int seatsOf(int set, int[] each) {
    int sum = 0;
    for (int k = 0; k < MOST; k++) {
      if (isIn(set, k)) {
        sum += each[k];
      }
    }
    return sum;
  }

  private void findTables() {
    filler.fill(counted, first, sizes, shares);
    ring.climb(counted, first, Ring.MORE_FIRST);
    System.arraycopy(first, 0, last, 0, LISTS);
    ring.climb(counted, last, Ring.FEWER_FIRST);
    numbers.measure(counted, first);
  }

  private boolean proposesSeatsWithoutVotes() {
    for (int list = 0; list < LISTS; list++) {
      if (counted[list] == 0 && proposal[list] > 0) {
        return true;
      }
    }
    return false;
  }

  /** Whether the proposal's lists at each * k, each * k + next, .. have due[k] together. */
  private boolean proposesInAll(int[] due, int each, int next) {
    for (int k = 0; k < MOST; k++) {
      int sum = 0;
      for (int j = 0; j < MOST; j++) {
        sum += proposal[each * k + next * j];
      }
      if (sum != due[k]) {
        return false;
      }
    }
    return true;
  }

  /** Makes some table that fits, where there is one. */
  private static final class Filler {
    /** The seats that each party may still get. */
    private final int[] room;

    Filler() {
      room = new int[MOST];
    }

    void fill(int[] votes, int[] table, int[] sizes, int[] shares) {
      Arrays.fill(table, 0);
      System.arraycopy(shares, 0, room, 0, MOST);
      for (int d = 0; d < MOST; d++) {
        for (int seat = 0; seat < sizes[d]; seat++) {
          if (!takeRoom(votes, table, room, d)) {
            makeRoom(votes, table, room, d, 0);
          }
        }
      }
    }

    /** A seat more for the strongest list of the district whose party has room. */
    private static boolean takeRoom(int[] votes, int[] table, int[] room, int district) {
      int best = -1;
      for (int p = 0; p < MOST; p++) {
        int list = district * MOST + p;
        if (room[p] > 0 && votes[list] > 0 && (best < 0 || isStronger(votes, table, list, best))) {
          best = list;
        }
      }
      if (best < 0) {
        return false;
      }
      table[best]++;
      room[best % MOST]--;
      return true;
    }

    private static boolean isStronger(int[] votes, int[] table, int list, int other) {
      return votes[list] * (2 * table[other] + 1) > votes[other] * (2 * table[list] + 1);
    }

    /**
     * A seat more for the district at a full party, where another district gives its seat up for
     * one at another party; the set of parties asked before grows, so the depth is MOST at most.
     */
    private static boolean makeRoom(
        int[] votes, int[] table, int[] room, int district, int asked) {
      for (int p = 0; p < MOST; p++) {
        if (votes[district * MOST + p] == 0 || isIn(asked, p)) {
          continue;
        }
        for (int d = 0; d < MOST; d++) {
          if (d == district || table[d * MOST + p] == 0) {
            continue;
          }
          if (takeRoom(votes, table, room, d)
              || makeRoom(votes, table, room, d, asked | 1 << p)) {
            table[d * MOST + p]--;
            table[district * MOST + p]++;
            return true;
          }
        }
      }
      return false;
    }
  }

  /** A ring in a table that fits, looked for so that going along it betters the table. */
  private static final class Ring {
    /** What is better, besides a gain above 1: for a gain of 1, nothing or what comes first. */
    static final int NEITHER = 0;

    static final int MORE_FIRST = 1;
    static final int FEWER_FIRST = 2;

    /** Far above the number of tables there can be: each step leads to one not seen before. */
    private static final int MOST_STEPS = 1000000;

    private final int[] ringDistricts;
    private final int[] ringParties;
    private int length;
    private int wish;

    Ring() {
      ringDistricts = new int[MOST];
      ringParties = new int[MOST];
    }

    /**
     * Where no ring is left that betters a table, it is the best of all: what lies between two
     * tables is made of rings, and of those at least one would better the lesser of the two.
     */
    void climb(int[] votes, int[] table, int wish) {
      for (int step = 0; step < MOST_STEPS && isFound(votes, table, wish); step++) {
        goAlong(table);
      }
    }

    boolean isFound(int[] votes, int[] table, int wish) {
      this.wish = wish;
      for (int d = 0; d < MOST - 1; d++) {
        ringDistricts[0] = d;
        if (leaves(votes, table, 1, 1 << d, 1, 1)) {
          return true;
        }
      }
      return false;
    }

    private void goAlong(int[] table) {
      for (int k = 0; k < length; k++) {
        int next = k + 1 < length ? ringDistricts[k + 1] : ringDistricts[0];
        table[ringDistricts[k] * MOST + ringParties[k]]++;
        table[next * MOST + ringParties[k]]--;
      }
    }

    /**
     * Goes on from the last of so many districts to a party. The gain is above / below; a ring
     * has eight lists at most, so both stay below 500^4 * 41^4, which a long holds.
     */
    private boolean leaves(
        int[] votes, int[] table, int districts, int used, long above, long below) {
      int district = ringDistricts[districts - 1];
      for (int p = 0; p < MOST; p++) {
        int list = district * MOST + p;
        if (votes[list] == 0 || isIn(used, MOST + p)) {
          continue;
        }
        ringParties[districts - 1] = p;
        long up = above * votes[list];
        long down = below * (2 * table[list] + 1);
        if (closes(votes, table, districts, up, down)
            || arrives(votes, table, districts, used | 1 << MOST + p, up, down)) {
          return true;
        }
      }
      return false;
    }

    /** Goes on from the last party to a district above the first, so each ring is met once. */
    private boolean arrives(
        int[] votes, int[] table, int districts, int used, long above, long below) {
      if (districts >= MOST) {
        return false;
      }
      int party = ringParties[districts - 1];
      for (int d = ringDistricts[0] + 1; d < MOST; d++) {
        int list = d * MOST + party;
        if (table[list] == 0 || isIn(used, d)) {
          continue;
        }
        ringDistricts[districts] = d;
        long up = above * (2 * table[list] - 1);
        long down = below * votes[list];
        if (leaves(votes, table, districts + 1, used | 1 << d, up, down)) {
          return true;
        }
      }
      return false;
    }

    /** Whether the last party leads back to the first district, and that betters the table. */
    private boolean closes(int[] votes, int[] table, int districts, long above, long below) {
      int party = ringParties[districts - 1];
      int list = ringDistricts[0] * MOST + party;
      if (districts < 2 || table[list] == 0) {
        return false;
      }
      length = districts;
      long up = above * (2 * table[list] - 1);
      long down = below * votes[list];
      return up > down || up == down && isWished(ringParties[0], party);
    }

    /** The first district is the ring's least, so its two lists tell which table comes first. */
    private boolean isWished(int more, int fewer) {
      switch (wish) {
        case MORE_FIRST:
          return more < fewer;
        case FEWER_FIRST:
          return more > fewer;
        default:
          return false;
      }
    }
  }

  /** The numbers of the districts (at 0 ..) and parties (at MOST ..), as fractions. */
  private static final class Numbers {
    private static final int PLACES = 2 * MOST;

    /** Above what Euclid's way needs for any two longs. */
    private static final int MOST_DIVISIONS = 100;

    /** 0 for a party to which there is no way. */
    private final long[] above;

    private final long[] below;

    Numbers() {
      above = new long[PLACES];
      below = new long[PLACES];
    }

    boolean isReached(int place) {
      return above[place] > 0;
    }

    long upper(int place) {
      return above[place];
    }

    long lower(int place) {
      return below[place];
    }

    /**
     * No ring gains in a table that obeys, so the greatest products come from ways that meet no
     * place twice: as many rounds as there are places find them, and a long holds them.
     */
    void measure(int[] votes, int[] table) {
      for (int place = 0; place < PLACES; place++) {
        above[place] = place < MOST ? 1 : 0;
        below[place] = 1;
      }
      boolean changed = true;
      for (int round = 0; round < PLACES && changed; round++) {
        changed = goRound(votes, table);
      }
    }

    private boolean goRound(int[] votes, int[] table) {
      boolean changed = false;
      for (int list = 0; list < LISTS; list++) {
        int district = list / MOST;
        int party = MOST + list % MOST;
        int seats = table[list];
        if (votes[list] > 0 && goWay(district, party, votes[list], 2 * seats + 1)) {
          changed = true;
        }
        if (seats > 0 && goWay(party, district, 2 * seats - 1, votes[list])) {
          changed = true;
        }
      }
      return changed;
    }

    /** Whether the way with the factor times / over leads to more than was known. */
    private boolean goWay(int from, int to, int times, int over) {
      long up = above[from] * times;
      long down = below[from] * over;
      if (up == 0 || above[to] > 0 && !isLess(above[to], below[to], up, down)) {
        return false;
      }
      long common = greatestDivisor(up, down);
      above[to] = up / common;
      below[to] = down / common;
      return true;
    }

    /**
     * Whether a / b is less than c / d, all above 0. Products could go beyond a long, so whole
     * parts are compared, and if they are the same, what is left over, turned upside down.
     */
    private static boolean isLess(long a, long b, long c, long d) {
      for (int k = 0; k < MOST_DIVISIONS && b > 0 && d > 0; k++) {
        long whole = a / b;
        long otherWhole = c / d;
        if (whole != otherWhole) {
          return whole < otherWhole;
        }
        long left = a - whole * b;
        long otherLeft = c - otherWhole * d;
        if (left == 0 || otherLeft == 0) {
          return otherLeft > 0;
        }
        a = d;
        c = b;
        b = otherLeft;
        d = left;
      }
      return false;
    }

    private static long greatestDivisor(long a, long b) {
      for (int k = 0; k < MOST_DIVISIONS && b > 0; k++) {
        long left = a % b;
        a = b;
        b = left;
      }
      return a > 0 ? a : 1;
    }
  }
}
