/** Makes objects with districts, parties and votes. */
final class Make {
  private Make() {}

  /** Districts with these seats, and a row of votes for each of them. */
  static TwoWaySeats seats(int[] seats, int[]... votes) {
    TwoWaySeats made = new TwoWaySeats();
    for (int d = 0; d < seats.length; d++) {
      made.district(seats[d]);
    }
    for (int p = 0; p < votes[0].length; p++) {
      made.party();
    }
    for (int d = 0; d < votes.length; d++) {
      for (int p = 0; p < votes[d].length; p++) {
        made.votes(d, p, votes[d][p]);
      }
    }
    return made;
  }

  static int[] row(int... numbers) {
    return numbers;
  }

  static void propose(TwoWaySeats made, int[]... table) {
    for (int d = 0; d < table.length; d++) {
      for (int p = 0; p < table[d].length; p++) {
        made.propose(d, p, table[d][p]);
      }
    }
  }

  static String table(TwoWaySeats made, boolean last) {
    StringBuilder text = new StringBuilder();
    for (int d = 0; d < made.count(false); d++) {
      text.append(d > 0 ? " | " : "");
      for (int p = 0; p < made.count(true); p++) {
        text.append(p > 0 ? " " : "").append(made.seats(d, p, last));
      }
    }
    return text.toString();
  }

  static String shares(TwoWaySeats made) {
    StringBuilder text = new StringBuilder();
    for (int p = 0; p < made.count(true); p++) {
      text.append(p > 0 ? " " : "").append(made.share(p));
    }
    return text.toString();
  }

  static String ties(TwoWaySeats made) {
    StringBuilder text = new StringBuilder();
    for (int p = 0; p < made.count(true); p++) {
      text.append(made.tied(p) ? "t" : "-");
    }
    return text.toString();
  }

  static String number(TwoWaySeats made, boolean party, int k) {
    return made.number(party, k, false) + "/" + made.number(party, k, true);
  }

  static String block(TwoWaySeats made) {
    StringBuilder text = new StringBuilder();
    for (int d = 0; d < made.count(false); d++) {
      text.append(made.blocks(false, d) ? "b" : "-");
    }
    text.append(" ");
    for (int p = 0; p < made.count(true); p++) {
      text.append(made.blocks(true, p) ? "b" : "-");
    }
    return text.toString();
  }

  /** What was solved: every answer, or the exception, of each call that needs it. */
  static String solved(TwoWaySeats made) {
    StringBuilder text = new StringBuilder();
    text.append(Check.outcome(() -> table(made, false))).append(", ");
    text.append(Check.outcome(() -> table(made, true))).append(", ");
    text.append(Check.outcome(() -> made.unique())).append(", ");
    for (int k = 0; k < made.count(false) + made.count(true); k++) {
      boolean party = k >= made.count(false);
      int place = party ? k - made.count(false) : k;
      text.append(Check.outcome(() -> number(made, party, place))).append(" ");
    }
    return text.append(", ").append(Check.outcome(() -> block(made))).toString();
  }

  /** Everything that can be asked: what was solved, and what is always answered. */
  static String everything(TwoWaySeats made) {
    StringBuilder text = new StringBuilder();
    text.append(made.count(false)).append(" by ").append(made.count(true)).append(", ");
    text.append(Check.outcome(() -> shares(made))).append(", ");
    text.append(Check.outcome(() -> ties(made))).append(", ");
    text.append(Check.outcome(() -> made.judge())).append(", ");
    return text.append(solved(made)).toString();
  }
}
