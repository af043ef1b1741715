/** The example of README.md: the answers that it tells. */
public final class ReadmeTest {
  public static void main(String[] args) {
    TwoWaySeats seats = new TwoWaySeats();
    Check.due("district(3)", 0, seats.district(3));
    Check.due("district(4)", 1, seats.district(4));
    Check.due("party()", 0, seats.party());
    Check.due("party() again", 1, seats.party());
    seats.votes(0, 0, 120);
    seats.votes(0, 1, 80);
    seats.votes(1, 0, 60);
    seats.votes(1, 1, 190);
    Check.due("share(0)", 3, seats.share(0));
    Check.due("tied(0)", false, seats.tied(0));
    Check.due("solve()", true, seats.solve());
    Check.due("seats(0, 1, false)", 1, seats.seats(0, 1, false));
    Check.due("unique()", true, seats.unique());
    Check.due("number(true, 1, false)", 190, seats.number(true, 1, false));
    Check.due("number(true, 1, true)", 7, seats.number(true, 1, true));
    seats.propose(0, 0, 2);
    Check.due("judge()", 2, seats.judge());
    Check.end();
  }
}
