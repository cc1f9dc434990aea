/** Promises 23 to 25: would, bestKind, weeksFor. */
public final class ForecastsTest {
    public static void main(String[] args) {
        would();
        wouldIsWhatSettleDoes();
        bestKind();
        bestKindAlongTheRow();
        weeksFor();
        Check.end();
    }

    private static void would() {
        HamperClub club = Check.clubOf(4);
        Check.save(club, 0, 3);
        Check.save(club, 1, 5);
        Check.save(club, 2, 1);
        club.withdraw(2, 2);
        // the pool is 7; member 0 has 15, member 1 has 25, member 2 has drawn and has 3
        club.choose(0, 0);
        club.choose(1, 0);
        Check.due("23: bonus 7 * 15 / 40", club.would(0, 0), 2);
        Check.due("23: bonus 7 * 25 / 40", club.would(1, 0), 4);
        Check.due("23: bonus of one that has drawn", club.would(2, 0), 0);
        Check.due("23: bonus of an empty card", club.would(3, 0), 0);
        Check.due("23: too few for its hamper", club.would(0, 1), Check.NONE);
        Check.due("23: enough for its hamper", club.would(1, 1), 0);
        Check.due("23: no choice", club.would(2, 1), Check.NONE);
        Check.due("23: all its stamps and the bonus", club.would(0, 2), 152);
        Check.due("23: what the hamper leaves", club.would(1, 2), 54);
        Check.due("23: without what was paid before", club.would(2, 2), 30);
        Check.due("23: nothing", club.would(3, 2), 0);
        Check.due("23: member -1", club.would(-1, 0), Check.INVALID);
        Check.due("23: member 4 of 4", club.would(4, 0), Check.INVALID);
        Check.due("23: what -1", club.would(0, -1), Check.INVALID);
        Check.due("23: what 3", club.would(0, 3), Check.INVALID);
        Check.due("23: changes nothing", club.count(2), 0);
        Check.due("23: records nothing", club.count(14), 5);
        HamperClub empty = Check.clubOf(1);
        Check.due("23: bonus without any stamps", empty.would(0, 0), 0);
        club.settle();
        Check.due("23: settled", club.would(0, 0), Check.ILLEGAL);
        Check.due("23: settled, the kind", club.would(1, 1), Check.ILLEGAL);
        Check.due("23: settled behind invalid", club.would(0, 3), Check.INVALID);
        Check.due("23: settled behind no such member", club.would(4, 0), Check.INVALID);
    }

    private static void wouldIsWhatSettleDoes() {
        HamperClub club = Check.clubOf(5);
        Check.save(club, 0, 2);
        Check.save(club, 2, 3);
        Check.save(club, 3, 4);
        club.setHamper(2, 12, 1);
        club.choose(0, 2);
        club.choose(1, 2);
        club.choose(3, 2);
        club.choose(2, 2);
        Check.due("23: along the row", club.would(3, 1), 2);
        Check.due("23: none left behind it", club.would(2, 1), Check.NONE);
        int[] pence = new int[5];
        for (int member = 0; member < 5; member++) {
            pence[member] = club.would(member, 2);
        }
        club.settle();
        for (int member = 0; member < 5; member++) {
            Check.due("23: pence of " + member, pence[member], club.member(member, 9));
        }
    }

    private static void bestKind() {
        HamperClub club = Check.clubOf(3);
        Check.due("24: no stamps", club.bestKind(0), Check.NONE);
        Check.save(club, 0, 12);
        Check.save(club, 1, 4);
        Check.due("24: 60 stamps", club.bestKind(0), 2);
        Check.due("24: 20 stamps", club.bestKind(1), 0);
        club.setHamper(3, 60, 1);
        Check.due("24: of the same price the smallest", club.bestKind(0), 2);
        club.setHamper(0, 60, 1);
        Check.due("24: kind 0 is smaller", club.bestKind(0), 0);
        club.setHamper(1, 7, 1);
        Check.due("24: the one it can pay", club.bestKind(1), 1);
        club.setHamper(0, 60, 0);
        club.setHamper(2, 60, 0);
        club.setHamper(3, 60, 0);
        Check.due("24: with no stock it would wait", club.bestKind(0), 1);
        club.setHamper(3, 60, 1);
        club.choose(0, 3);
        club.setHamper(3, 60, 0);
        Check.due("24: the choice that it has", club.bestKind(0), 3);
        Check.due("24: its choice stays", club.member(0, 3), 1);
        Check.due("24: records nothing", club.count(14), 5);
        Check.due("24: member -1", club.bestKind(-1), Check.INVALID);
        Check.due("24: member 3 of 3", club.bestKind(3), Check.INVALID);
        club.settle();
        Check.due("24: settled", club.bestKind(0), Check.ILLEGAL);
        Check.due("24: settled behind invalid", club.bestKind(3), Check.INVALID);
    }

    private static void bestKindAlongTheRow() {
        HamperClub club = Check.clubOf(3);
        Check.save(club, 2, 20);
        Check.due("24: 100 stamps", club.bestKind(2), 3);
        club.choose(0, 3);
        club.choose(1, 3);
        Check.due("24: who has it cannot pay, nor who waits", club.bestKind(2), 3);
        club.choose(2, 3);
        Check.due("24: waiting itself", club.bestKind(2), 3);
        Check.due("24: its place stays", club.member(2, 4), 2);
        club.setHamper(3, 1, 0);
        club.stick(0, 1);
        Check.due("24: who has it can pay", club.bestKind(2), 2);
    }

    private static void weeksFor() {
        HamperClub club = Check.clubOf(2);
        Check.due("25: 20 by 5, this week too", club.weeksFor(0, 0, 5), 3);
        Check.due("25: 20 by 3", club.weeksFor(0, 0, 3), 6);
        Check.due("25: 100 by 1", club.weeksFor(0, 3, 1), 99);
        club.stick(0, 2);
        Check.due("25: this week it has stuck", club.weeksFor(0, 0, 5), 4);
        Check.due("25: 18 by 3", club.weeksFor(0, 0, 3), 6);
        Check.due("25: 18 by 4", club.weeksFor(0, 0, 4), 5);
        club.setHamper(1, 2, 0);
        Check.due("25: enough now, without a stock", club.weeksFor(0, 1, 1), 0);
        club.setHamper(1, 3, 0);
        Check.due("25: one is missing", club.weeksFor(0, 1, 5), 1);
        Check.due("25: enough with this week", club.weeksFor(1, 1, 3), 0);
        Check.due("25: not enough with this week", club.weeksFor(1, 1, 2), 1);
        club.setHamper(2, 200, 0);
        Check.due("25: beyond week 60", club.weeksFor(0, 2, 1), 198);
        Check.due("25: member -1", club.weeksFor(-1, 0, 1), Check.INVALID);
        Check.due("25: member 2 of 2", club.weeksFor(2, 0, 1), Check.INVALID);
        Check.due("25: kind -1", club.weeksFor(0, -1, 1), Check.INVALID);
        Check.due("25: kind 4", club.weeksFor(0, 4, 1), Check.INVALID);
        Check.due("25: no stamps", club.weeksFor(0, 0, 0), Check.INVALID);
        Check.due("25: 6 stamps", club.weeksFor(0, 0, 6), Check.INVALID);
        Check.due("25: changes nothing", club.member(0, 0), 2);
        Check.due("25: records nothing", club.count(14), 5);
        club.mislay(0);
        Check.due("25: mislaid", club.weeksFor(0, 0, 1), Check.ILLEGAL);
        Check.due("25: mislaid behind invalid", club.weeksFor(0, 0, 6), Check.INVALID);
        club.settle();
        Check.due("25: closed", club.weeksFor(1, 0, 1), Check.ILLEGAL);
    }
}
