/** Edges of promises 12 to 14: take, restore, undo. */
public final class SnapshotsEdgesTest extends Edges {
    public static void main(String[] args) {
        runAll(SnapshotsEdgesTest.class);
    }

    // ---- promise 12: take

    static void promise12OnlySlots0And1() {
        onlyFromTo("slot", 0, 1, Edges::busy, HamperClub::take);
        leavesAll("slot 2, settled", Edges::settled, club -> club.take(2), INVALID);
    }

    static void promise12TheFirstAndTheLastSlot() {
        HamperClub club = clubOf(1);
        due("slot 0", club.take(0), 0);
        due("snapshots", club.count(13), 1);
        due("slot 1", club.take(1), 0);
        due("snapshots then", club.count(13), 2);
    }

    static void promise12OfAClubWithoutMembers() {
        HamperClub club = new HamperClub();
        due("take(1)", club.take(1), 0);
        club.join();
        due("restore(1)", club.restore(1), 0);
        due("members", club.count(1), 0);
    }

    static void promise12InWeek60() {
        due("take(0)", lastWeek().take(0), 60);
    }

    static void promise12InPlaceOfOneThatIsThere() {
        HamperClub club = busy();
        due("ahead of it", club.count(13), 2);
        due("take(0)", club.take(0), 3);
        due("snapshots", club.count(13), 2);
        club.week();
        due("the new one", club.restore(0), 3);
        due("with what it holds", club.member(0, 0), 18);
        due("the other slot is as before", club.restore(1), 3);
        due("with what that holds", club.member(0, 0), 13);
    }

    static void promise12WhatFollowsDoesNotChangeIt() {
        HamperClub club = clubOf(1);
        club.take(0);
        club.stick(0, 5);
        club.choose(0, 3);
        club.week();
        due("restore(0)", club.restore(0), 0);
        due("stamps", club.member(0, 0), 0);
        due("choice", club.member(0, 2), NONE);
        due("stock", club.hamper(3, 1), 1);
    }

    static void promise12SettledIsAllowed() {
        HamperClub club = settled();
        due("take(0)", club.take(0), 3);
        club.undo();
        club.undo();
        due("not settled", club.count(2), 0);
        due("the slot is as ahead of it", club.restore(0), 1);
    }

    static void promise12ASnapshotOfASettledClub() {
        HamperClub club = settled();
        club.take(0);
        due("restore(1)", club.restore(1), 3);
        due("not settled", club.count(2), 0);
        due("restore(0)", club.restore(0), 3);
        due("settled", club.count(2), 1);
        due("join()", club.join(), ILLEGAL);
    }

    static void promise12IsAnAction() {
        isAction(Edges::nearlyBusy, club -> club.take(0), 3);
        isAction(HamperClub::new, club -> club.take(1), 0);
    }

    // ---- promise 13: restore

    static void promise13OnlySlots0And1() {
        onlyFromTo("slot", 0, 1, Edges::busy, HamperClub::restore);
        leavesAll("slot 2, settled", Edges::settled, club -> club.restore(2), INVALID);
    }

    static void promise13AnEmptySlotIsRefused() {
        leavesAll("slot 0", () -> clubOf(1), club -> club.restore(0), ILLEGAL);
        leavesAll("slot 1", () -> clubOf(1), club -> club.restore(1), ILLEGAL);
    }

    static void promise13TheOtherSlotIsEmpty() {
        leavesAll("slot 1, with one in 0", () -> {
            HamperClub club = clubOf(1);
            club.take(0);
            return club;
        }, club -> club.restore(1), ILLEGAL);
        leavesAll("slot 0, with one in 1", () -> {
            HamperClub club = clubOf(1);
            club.take(1);
            return club;
        }, club -> club.restore(0), ILLEGAL);
    }

    static void promise13ASlotIsEmptyAgainBehindUndo() {
        leavesAll("take undone", () -> {
            HamperClub club = clubOf(1);
            club.take(0);
            club.undo();
            return club;
        }, club -> club.restore(0), ILLEGAL);
    }

    static void promise13AnEmptySlotIsRefusedInASettledClub() {
        leavesAll("settled", () -> {
            HamperClub club = clubOf(1);
            club.settle();
            return club;
        }, club -> club.restore(0), ILLEGAL);
    }

    static void promise13ItStaysAndCanBeRestoredAgain() {
        HamperClub club = busy();
        due("once", club.restore(0), 1);
        club.stick(5, 5);
        due("twice", club.restore(0), 1);
        due("as it was", club.member(5, 0), 0);
        due("snapshots", club.count(13), 2);
    }

    static void promise13BackFromWeek60() {
        HamperClub club = lastWeek();
        due("restore(0)", club.restore(0), 1);
        due("present week", club.count(0), 1);
        due("a week passes again", club.week(), 0);
    }

    static void promise13TheTextIsNotOfIt() {
        HamperClub club = clubOf(1);
        write(club, "w");
        club.take(0);
        club.clearText();
        write(club, "w;w");
        club.restore(0);
        due("length", club.count(15), 3);
        due("carryOut()", club.carryOut(), 2);
        club.restore(0);
        due("length then", club.count(15), 0);
    }

    static void promise13TheSlotsAreNotOfIt() {
        HamperClub club = clubOf(1);
        club.take(0);
        club.week();
        club.take(1);
        club.restore(0);
        due("snapshots", club.count(13), 2);
        due("the other, taken later", club.restore(1), 1);
    }

    static void promise13TheHistoryIsNotOfItAndRecordsIt() {
        HamperClub club = new HamperClub();
        club.take(0);
        club.join();
        club.join();
        due("restore(0)", club.restore(0), 0);
        due("states", club.count(14), 4);
        due("undone", club.undo(), 3);
        due("members", club.count(1), 2);
        due("undone further", club.undo(), 2);
        due("members then", club.count(1), 1);
    }

    static void promise13OutOfASettledClub() {
        HamperClub club = settled();
        due("restore(1)", club.restore(1), 3);
        due("not settled", club.count(2), 0);
        due("cards are in hand", club.member(0, 1), 0);
        due("join()", club.join(), 6);
    }

    /** Each of the actions changes something else. */
    static void promise13AllThatItKeepsComesBack() {
        alike("restored", () -> {
            HamperClub club = keptInSlot0();
            changeMuch(club);
            club.restore(0);
            return club;
        }, SnapshotsEdgesTest::keptInSlot0);
    }

    static void promise13AllThatItKeepsComesBackOutOfASettledClub() {
        alike("restored", () -> {
            HamperClub club = keptInSlot0();
            changeMuch(club);
            club.settle();
            club.restore(0);
            return club;
        }, SnapshotsEdgesTest::keptInSlot0);
    }

    private static HamperClub keptInSlot0() {
        HamperClub club = busy();
        club.take(0);
        return club;
    }

    private static void changeMuch(HamperClub club) {
        club.join();
        club.withdraw(1, 1);
        club.mislay(0);
        club.find(3);
        club.setHamper(0, 7, 7);
        club.choose(2, 2);
        club.giveUp(1);
        club.stick(4, 5);
        weeks(club, 6);
        club.mislay(2);
        club.stick(5, 5);
    }

    static void promise13TheWeekOfJoiningComesBack() {
        HamperClub club = new HamperClub();
        club.take(0);
        weeks(club, 3);
        club.join();
        club.choose(0, 0);
        club.take(1);
        club.restore(0);
        club.join();
        club.restore(1);
        weeks(club, 4);
        due("4 weeks behind it", club.member(0, 2), 0);
        due("5 weeks behind it", club.week(), 1);
    }

    static void promise13TheWeekOfMislayingComesBack() {
        HamperClub club = clubOf(1);
        club.mislay(0);
        club.take(0);
        weeks(club, 2);
        club.take(1);
        club.find(0);
        club.mislay(0);
        club.restore(1);
        due("2 weeks behind it", club.find(0), 2);
        club.restore(0);
        due("at once", club.find(0), 0);
    }

    static void promise13IsAnAction() {
        isAction(Edges::nearlyBusy, club -> club.restore(0), 1);
    }

    static void promise13IsAnActionThatChangesNothingToo() {
        isAction(() -> {
            HamperClub club = clubOf(1);
            club.take(0);
            return club;
        }, club -> club.restore(0), 0);
    }

    static void promise13IsAnActionInASettledClubToo() {
        isAction(() -> {
            HamperClub club = clubOf(1);
            club.take(1);
            club.settle();
            return club;
        }, club -> club.restore(1), 0);
    }

    // ---- promise 14: undo

    static void promise14AnEmptyHistoryIsRefused() {
        leavesAll("nothing recorded", HamperClub::new, HamperClub::undo, ILLEGAL);
        leavesAll("all undone", () -> {
            HamperClub club = busy();
            for (int state = 0; state < 5; state++) {
                club.undo();
            }
            return club;
        }, HamperClub::undo, ILLEGAL);
    }

    static void promise14ASingleState() {
        HamperClub club = clubOf(1);
        due("states", club.count(14), 1);
        due("undo()", club.undo(), 0);
        due("members", club.count(1), 0);
        due("states then", club.count(14), 0);
    }

    static void promise14FourFiveAndSixActions() {
        for (int actions = 4; actions <= 6; actions++) {
            HamperClub club = clubOf(actions);
            int states = Math.min(actions, 5);
            due("states of " + actions, club.count(14), states);
            for (int left = states - 1; left >= 0; left--) {
                due("undo() of " + actions, club.undo(), left);
                due("members", club.count(1), actions - states + left);
            }
            due("nothing is left of " + actions, club.undo(), ILLEGAL);
        }
    }

    static void promise14AroundManyTimes() {
        for (int actions = 7; actions <= 40; actions++) {
            HamperClub club = inWeek(actions, 0);
            for (int left = 4; left >= 0; left--) {
                due("undo() of " + actions, club.undo(), left);
                due("week", club.count(0), actions - 5 + left);
            }
            due("nothing is left of " + actions, club.undo(), ILLEGAL);
        }
    }

    static void promise14ForthAndBack() {
        HamperClub club = new HamperClub();
        for (int round = 0; round < 20; round++) {
            club.week();
            club.week();
            club.week();
            due("undo()", club.undo(), Math.min(round + 2, 4));
            due("undo() again", club.undo(), Math.min(round + 1, 3));
            due("week", club.count(0), round + 1);
        }
    }

    static void promise14AnUndoneStateDoesNotComeAgain() {
        HamperClub club = clubOf(2);
        due("undo()", club.undo(), 1);
        due("undo()", club.undo(), 0);
        due("no more", club.undo(), ILLEGAL);
        due("join()", club.join(), 0);
        due("states", club.count(14), 1);
    }

    static void promise14ARefusedActionIsNotRecorded() {
        HamperClub club = new HamperClub();
        club.stick(0, 1);
        club.withdraw(0, 1);
        club.mislay(0);
        club.find(0);
        club.setHamper(0, 0, 0);
        club.choose(0, 0);
        club.giveUp(0);
        club.take(2);
        club.restore(0);
        club.carryOut();
        club.undo();
        due("states", club.count(14), 0);
    }

    static void promise14OtherCallsAreNotRecorded() {
        HamperClub club = new HamperClub();
        club.append('w');
        club.clearText();
        club.count(0);
        club.member(0, 0);
        club.isGood(0, 0);
        club.hamper(0, 0);
        club.waiting(0, 0);
        club.would(0, 0);
        club.bestKind(0);
        club.weeksFor(0, 0, 1);
        due("states", club.count(14), 0);
    }

    static void promise14ActionsThatChangeNothingAreRecorded() {
        HamperClub club = new HamperClub();
        due("the same price and stock", club.setHamper(0, 20, 2), 20);
        due("states", club.count(14), 1);
        due("a take", club.take(0), 0);
        due("the same take", club.take(0), 0);
        due("a restore of the same", club.restore(0), 0);
        due("states then", club.count(14), 4);
        for (int left = 3; left >= 0; left--) {
            due("undo()", club.undo(), left);
        }
    }

    static void promise14TheTextIsNotOfAState() {
        HamperClub club = new HamperClub();
        write(club, "w");
        club.join();
        write(club, ";w");
        due("undo()", club.undo(), 0);
        due("length", club.count(15), 3);
        due("carryOut()", club.carryOut(), 2);
        due("undone", club.undo(), 0);
        due("length then", club.count(15), 0);
    }

    static void promise14TheSlotsAreOfAState() {
        HamperClub club = clubOf(1);
        club.take(0);
        club.week();
        club.take(0);
        club.take(1);
        due("undo() of take(1)", club.undo(), 4);
        due("snapshots", club.count(13), 1);
        due("undo() of the second take(0)", club.undo(), 3);
        due("the first one is there again", club.restore(0), 0);
        club.undo();
        club.undo();
        due("undo() of the first take(0)", club.undo(), 1);
        due("snapshots then", club.count(13), 0);
    }

    static void promise14FiveActionsUndoneBringAllBack() {
        leavesAll("five of five", () -> {
            HamperClub club = busy();
            for (int state = 0; state < 5; state++) {
                club.undo();
            }
            return club;
        }, club -> {
            club.withdraw(0, 3);
            club.mislay(2);
            club.choose(0, 2);
            club.week();
            club.settle();
            int answers = 0;
            for (int state = 0; state < 5; state++) {
                answers = 10 * answers + club.undo();
            }
            return answers;
        }, 43210);
    }

    static void promise14TheWeekOfJoiningComesBack() {
        HamperClub club = inWeek(3, 0);
        club.take(0);
        club.join();
        club.choose(0, 0);
        club.restore(0);
        club.week();
        club.join();
        due("undo() of a later joining", club.undo(), 4);
        due("undo() of the week", club.undo(), 3);
        due("undo() of the restoring", club.undo(), 2);
        weeks(club, 4);
        due("4 weeks behind it", club.member(0, 2), 0);
        due("5 weeks behind it", club.week(), 1);
    }

    static void promise14TheWeekOfMislayingComesBack() {
        HamperClub club = clubOf(1);
        club.mislay(0);
        weeks(club, 2);
        club.find(0);
        club.mislay(0);
        due("undo() of mislaying", club.undo(), 4);
        due("undo() of finding", club.undo(), 3);
        due("2 weeks behind it", club.find(0), 2);
    }

    static void promise14OutOfASettledClub() {
        HamperClub club = settled();
        due("undo()", club.undo(), 4);
        due("not settled", club.count(2), 0);
        due("stamps", club.member(0, 0), 18);
        due("card", club.member(3, 1), 1);
        due("choice", club.member(1, 2), 3);
        due("pool", club.count(4), 7);
    }

    static void promise14BackIntoASettledClub() {
        HamperClub club = settled();
        club.restore(0);
        due("not settled", club.count(2), 0);
        due("undo()", club.undo(), 4);
        due("settled", club.count(2), 1);
    }

    static void promise14BackFromAFullClub() {
        HamperClub club = full();
        due("a 13th", club.join(), FULL);
        due("undo()", club.undo(), 4);
        due("members", club.count(1), 11);
    }
}
