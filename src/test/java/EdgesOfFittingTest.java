/**
 * "It FITS, if .. lists without votes (have) none" and "THE BLOCK, if no table fits": for every
 * choice of the lists that have votes, of four districts and four parties. Either a table is found,
 * which is added up here, or a set of districts with too many seats, which is counted here.
 */
public final class EdgesOfFittingTest {
  private static final int[][] SIZES = {{5, 5, 5, 5}, {1, 2, 3, 14}, {1, 1, 1, 1}, {9, 1, 6, 2}};

  private static int tables = 0;
  private static int blocks = 0;

  private final int[] sizes;
  private final int[] votes = new int[16];
  private final TwoWaySeats seats;

  private EdgesOfFittingTest(int choice) {
    sizes = SIZES[choice % 7 % SIZES.length];
    seats = Make.seats(sizes, new int[4]);
    for (int k = 0; k < 16; k++) {
      // One vote, or many: a list of one vote is a list with votes, too.
      votes[k] = (choice >> k & 1) == 0 ? 0 : choice % 3 == 0 ? 1 : 1 + choice * (k + 3) % 40;
      seats.votes(k / 4, k % 4, votes[k]);
    }
  }

  public static void main(String[] args) {
    for (int choice = 1; choice < 1 << 16 && Check.isClean(); choice++) {
      new EdgesOfFittingTest(choice).check("lists " + Integer.toBinaryString(choice));
    }
    Check.due("enough tables were seen", true, tables > 10000);
    Check.due("enough blocks were seen", true, blocks > 10000);
    Check.end();
  }

  private void check(String name) {
    if (seats.solve()) {
      tables++;
      checkTable(name + ", first", false);
      checkTable(name + ", last", true);
    } else {
      blocks++;
      checkBlock(name);
    }
  }

  private void checkTable(String name, boolean last) {
    int[] left = new int[8];
    for (int k = 0; k < 4; k++) {
      left[k] = sizes[k];
      left[4 + k] = seats.share(k);
    }
    for (int k = 0; k < 16; k++) {
      int n = seats.seats(k / 4, k % 4, last);
      Check.due(name + ", none or more", true, n >= 0);
      Check.due(name + ", none without votes", true, n == 0 || votes[k] > 0);
      left[k / 4] -= n;
      left[4 + k % 4] -= n;
      seats.propose(k / 4, k % 4, n);
    }
    for (int k = 0; k < 8; k++) {
      Check.due(name + ", seats that are left", 0, left[k]);
    }
    Check.due(name + ", it obeys", 0, seats.judge());
  }

  private void checkBlock(String name) {
    int told = 0;
    for (int d = 0; d < 4; d++) {
      told |= seats.blocks(false, d) ? 1 << d : 0;
    }
    for (int set = 0; set < told; set++) {
      Check.due(name + ", no lesser set", false, tooMany(set) > 0);
    }
    Check.due(name + ", it is a block", true, tooMany(told) > 0);
    for (int p = 0; p < 4; p++) {
      Check.due(name + ", party " + p, hasVotesIn(told, p), seats.blocks(true, p));
    }
  }

  /** The seats of the districts that are more than their parties' shares. */
  private int tooMany(int set) {
    int sum = 0;
    for (int k = 0; k < 4; k++) {
      sum += (set >> k & 1) != 0 ? sizes[k] : 0;
      sum -= hasVotesIn(set, k) ? seats.share(k) : 0;
    }
    return sum;
  }

  private boolean hasVotesIn(int set, int party) {
    for (int d = 0; d < 4; d++) {
      if ((set >> d & 1) != 0 && votes[d * 4 + party] > 0) {
        return true;
      }
    }
    return false;
  }
}
