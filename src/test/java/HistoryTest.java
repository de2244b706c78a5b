/** Promises 18 to 21: undo and the saved copy (section 8). */
public final class HistoryTest {
    private static final Expect EXPECT = new Expect("HistoryTest");

    public static void main(String[] args) {
        promise18EachChange();
        promise18NoEffect();
        promise18And19Limits();
        promise18FailedCalls();
        promise18InputBuffer();
        promise20And21Copy();
        EXPECT.finish();
    }

    private static ClimbingHall prepared() {
        ClimbingHall hall = new ClimbingHall();
        hall.setRoute(0, 12);
        hall.setRoute(1, 20);
        hall.lend(0, 0);
        hall.climb(0, 0);
        hall.vote(0, 0, 16);
        Halls.climb(hall, 0, 0, 5);
        return hall;
    }

    /** Makes a change on a prepared hall and undoes it. */
    private static void expectUndone(String what, java.util.function.ToIntFunction<ClimbingHall> call) {
        ClimbingHall hall = prepared();
        hall.enroll(0, 0);
        String before = Halls.picture(hall);
        call.applyAsInt(hall);
        EXPECT.equal("19: changes after " + what, hall.undoCount(), 8);
        EXPECT.equal("18: undo of " + what, hall.undo(), 7);
        if (!Halls.picture(hall).equals(before)) {
            EXPECT.report("18: undo of " + what + " did not bring the hall back");
        }
    }

    private static void promise18EachChange() {
        expectUndone("setRoute", hall -> hall.setRoute(0, 3));
        expectUndone("removeRoute", hall -> hall.removeRoute(0));
        expectUndone("climb", hall -> hall.climb(0, 0));
        expectUndone("vote", hall -> hall.vote(0, 0, 3));
        expectUndone("lend", hall -> hall.lend(1, 1));
        expectUndone("giveBack", hall -> hall.giveBack(0));
        expectUndone("check", hall -> hall.check(1, true));
        expectUndone("a bad check", hall -> hall.check(1, false));
        expectUndone("leaveCourse", hall -> hall.leaveCourse(0));
        expectUndone("finish", hall -> hall.finish(0, 1));
        expectUndone("postpone", hall -> hall.postpone(1, 3));
        expectUndone("endDays", hall -> hall.endDays(12));
        ClimbingHall hall = prepared();
        String before = Halls.picture(hall);
        hall.enroll(0, 0);
        hall.undo();
        if (!Halls.picture(hall).equals(before)) {
            EXPECT.report("18: undo of enroll did not bring the hall back");
        }
        hall.removeRoute(0);
        hall.setRoute(0, 12);
        hall.undo();
        hall.undo();
        EXPECT.equal("18: the route is back", hall.vote(0, 0, 18), 14);
    }

    private static void promise18NoEffect() {
        ClimbingHall hall = new ClimbingHall();
        hall.finish(0, 0);
        EXPECT.equal("18: a change without effect", hall.undoCount(), 1);
        hall.check(0, true);
        EXPECT.equal("18: another one", hall.undoCount(), 2);
        EXPECT.equal("18: undone", hall.undo(), 1);
        EXPECT.equal("18: undone", hall.undo(), 0);
        hall.save();
        hall.errorPosition();
        hall.count(0);
        EXPECT.equal("19: no changes", hall.undoCount(), 0);
    }

    private static void promise18And19Limits() {
        ClimbingHall hall = new ClimbingHall();
        EXPECT.equal("19: none at first", hall.undoCount(), 0);
        EXPECT.fails("18: none at first", Expect.STATE, () -> hall.undo());
        for (int day = 1; day <= 11; day++) {
            hall.endDays(1);
            EXPECT.equal("19: after " + day, hall.undoCount(), Math.min(day, 8));
        }
        EXPECT.equal("18: one", hall.undo(), 7);
        EXPECT.equal("18: two", hall.undo(), 6);
        EXPECT.equal("18: the day", hall.count(6), 9);
        hall.endDays(20);
        EXPECT.equal("19: one more", hall.undoCount(), 7);
        for (int left = 6; left >= 0; left--) {
            EXPECT.equal("18: left", hall.undo(), left);
            EXPECT.equal("18: the day", hall.count(6), left + 3);
        }
        EXPECT.fails("18: none left", Expect.STATE, () -> hall.undo());
        EXPECT.equal("19: none left", hall.undoCount(), 0);
        hall.endDays(1);
        EXPECT.equal("18: goes on", hall.undo(), 0);
        EXPECT.equal("18: goes on", hall.count(6), 3);
    }

    private static void promise18FailedCalls() {
        ClimbingHall hall = prepared();
        String before = Halls.picture(hall);
        EXPECT.fails("18: climb", Expect.STATE, () -> hall.climb(0, 1));
        EXPECT.fails("18: vote", Expect.ARGUMENT, () -> hall.vote(0, 0, 30));
        EXPECT.fails("18: lend", Expect.STATE, () -> hall.lend(1, 0));
        EXPECT.fails("18: endDays", Expect.ARGUMENT, () -> hall.endDays(61));
        EXPECT.fails("18: setRoute", Expect.ARGUMENT, () -> hall.setRoute(0, 30));
        if (!Halls.picture(hall).equals(before)) {
            EXPECT.report("18: a call that failed changed the hall");
        }
        ClimbingHall fresh = new ClimbingHall();
        EXPECT.fails("18: giveBack", Expect.STATE, () -> fresh.giveBack(0));
        EXPECT.fails("18: leaveCourse", Expect.STATE, () -> fresh.leaveCourse(0));
        EXPECT.fails("18: removeRoute", Expect.OUTSIDE, () -> fresh.removeRoute(0));
        EXPECT.equal("19: failed calls are no changes", fresh.undoCount(), 0);
    }

    private static void promise18InputBuffer() {
        ClimbingHall hall = new ClimbingHall();
        hall.save();
        hall.endDays(1);
        Halls.put(hall, "wall 3 0 1");
        hall.undo();
        EXPECT.equal("18: the buffer stays", hall.append(0, 0, 0, 0, 0), 10);
        hall.restore();
        EXPECT.equal("21: the buffer stays", hall.append(0, 0, 0, 0, 0), 10);
        EXPECT.equal("21: and is valid", hall.errorPosition(), -1);
    }

    private static void promise20And21Copy() {
        ClimbingHall hall = prepared();
        EXPECT.fails("21: no copy", Expect.STATE, () -> hall.restore());
        EXPECT.equal("20: the day", hall.save(), 0);
        EXPECT.equal("20: no change", hall.undoCount(), 8);
        String first = Halls.picture(hall);
        hall.endDays(30);
        hall.setRoute(0, 3);
        hall.check(1, false);
        EXPECT.equal("21: the day", hall.restore(), 0);
        EXPECT.equal("21: no history", hall.undoCount(), 0);
        EXPECT.fails("21: nothing to undo", Expect.STATE, () -> hall.undo());
        if (!Halls.picture(hall).equals(first)) {
            EXPECT.report("21: the hall is not the copy");
        }
        hall.endDays(4);
        hall.undo();
        hall.endDays(5);
        EXPECT.equal("21: the copy is kept", hall.restore(), 0);
        if (!Halls.picture(hall).equals(first)) {
            EXPECT.report("21: the hall is not the copy the second time");
        }
        hall.endDays(9);
        EXPECT.equal("20: in place of the earlier one", hall.save(), 9);
        hall.undo();
        EXPECT.equal("20: undo leaves the copy", hall.count(6), 0);
        EXPECT.equal("21: the later copy", hall.restore(), 9);
    }
}
