/** Promises 12 to 14: take, restore, undo. */
public final class SnapshotsTest {
    public static void main(String[] args) {
        take();
        restore();
        undo();
        undoAndSlots();
        Check.end();
    }

    private static void take() {
        HamperClub club = Check.clubOf(1);
        Check.due("12: slot -1", club.take(-1), Check.INVALID);
        Check.due("12: slot 2", club.take(2), Check.INVALID);
        Check.due("12: week 0", club.take(0), 0);
        Check.due("12: one", club.count(13), 1);
        club.week();
        Check.due("12: in place of one", club.take(0), 1);
        Check.due("12: still one", club.count(13), 1);
        Check.due("12: the other slot", club.take(1), 1);
        Check.due("12: two", club.count(13), 2);
        Check.due("12: is an action", club.count(14), 5);
        club.settle();
        Check.due("12: settled", club.take(1), 1);
        club.undo();
        club.undo();
        Check.due("12: week 2", club.week(), 0);
        Check.due("12: the slot is as it was ahead of settling", club.restore(1), 1);
        Check.due("12: not settled", club.count(2), 0);
    }

    private static void restore() {
        HamperClub club = Check.clubOf(1);
        Check.due("13: slot -1", club.restore(-1), Check.INVALID);
        Check.due("13: slot 2", club.restore(2), Check.INVALID);
        Check.due("13: empty", club.restore(0), Check.ILLEGAL);
        club.take(1);
        Check.due("13: the other is empty", club.restore(0), Check.ILLEGAL);
        Check.save(club, 0, 2);
        Check.due("13: text stays", club.append('w'), 1);
        Check.due("13: week 0", club.restore(1), 0);
        Check.due("13: stamps", club.member(0, 0), 0);
        Check.due("13: tin", club.count(3), 0);
        Check.due("13: good weeks", club.member(0, 6), 0);
        Check.due("13: the text is not of it", club.count(15), 1);
        Check.due("13: nor the history, which it is recorded in", club.count(14), 5);
        Check.due("13: nor the slots", club.count(13), 1);
        Check.due("13: undone", club.undo(), 4);
        Check.due("13: undone, week 2", club.count(0), 2);
        Check.due("13: it stays", club.restore(1), 0);
        club.stick(0, 3);
        Check.due("13: it is not changed by what follows", club.restore(1), 0);
        Check.due("13: stamps again", club.member(0, 0), 0);
        club.settle();
        Check.due("13: out of a settled club", club.restore(1), 0);
        Check.due("13: not settled", club.count(2), 0);
        club.settle();
        club.take(0);
        club.restore(1);
        club.restore(0);
        Check.due("13: a snapshot of a settled club", club.count(2), 1);
    }

    private static void undo() {
        HamperClub club = new HamperClub();
        Check.due("14: empty", club.undo(), Check.ILLEGAL);
        for (int member = 0; member < 6; member++) {
            club.join();
            Check.due("14: at most 5 states", club.count(14), Math.min(5, member + 1));
        }
        club.append('w');
        for (int left = 4; left >= 0; left--) {
            Check.due("14: left", club.undo(), left);
            Check.due("14: members", club.count(1), left + 1);
            Check.due("14: states", club.count(14), left);
        }
        Check.due("14: the sixth was dropped", club.undo(), Check.ILLEGAL);
        Check.due("14: the text stays", club.count(15), 1);
        club.stick(0, 9);
        Check.due("14: an error records nothing", club.count(14), 0);
        club.setHamper(0, 20, 2);
        Check.due("14: an action that changes nothing is recorded", club.count(14), 1);
        Check.due("14: and undone", club.undo(), 0);
        club.append('w');
        club.clearText();
        club.would(0, 2);
        club.bestKind(0);
        Check.due("14: no other call is recorded", club.count(14), 0);
        club.stick(0, 5);
        club.settle();
        Check.due("14: out of a settled club", club.undo(), 1);
        Check.due("14: not settled", club.count(2), 0);
        Check.due("14: its stamps", club.member(0, 0), 5);
        for (int round = 0; round < 20; round++) {
            club.week();
            club.week();
            club.undo();
        }
        Check.due("14: behind many rounds", club.count(0), 20);
        Check.due("14: four of five are left", club.count(14), 4);
        club.undo();
        Check.due("14: one week back", club.count(0), 19);
    }

    private static void undoAndSlots() {
        HamperClub club = Check.clubOf(1);
        club.take(0);
        club.week();
        club.take(0);
        club.take(1);
        Check.due("14: undo take(1)", club.undo(), 4);
        Check.due("14: slot 1 is empty again", club.restore(1), Check.ILLEGAL);
        Check.due("14: undo take(0)", club.undo(), 3);
        Check.due("14: slot 0 holds the former snapshot", club.restore(0), 0);
        club.undo();
        club.undo();
        Check.due("14: undo the first take(0)", club.undo(), 1);
        Check.due("14: no snapshots", club.count(13), 0);
    }
}
