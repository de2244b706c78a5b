import java.util.ArrayList;
import java.util.List;
import java.util.function.Consumer;

/** The edges of promises 18 to 21 and of section 8: undo, and the saved copy. */
public final class HistoryEdgesTest {
    private static final Expect EXPECT = new Expect("HistoryEdgesTest");
    private static final Edges FRESH = new Edges(EXPECT, ClimbingHall::new);
    private static final Edges FULL = new Edges(EXPECT, Halls::full);
    private static final int MOST_UNDOS = 8;

    public static void main(String[] args) {
        promise18NothingToUndo();
        promise18TheLatestEight();
        promise18UndoneAndChangedAgain();
        promise18EachChangeOfAFullHall();
        promise18WithoutEffect();
        promise18NoChanges();
        promise18RefusedCalls();
        promise18And21InputBuffer();
        promise20Save();
        promise20CopyStaysAsItIs();
        promise21NoCopy();
        promise21Restore();
        promise21GoesOnFromTheCopy();
        EXPECT.finish();
    }

    private static void expectSame(String what, ClimbingHall hall, String due) {
        EXPECT.equal(what + ", compared", Halls.picture(hall).equals(due) ? 1 : 0, 1);
    }

    // ---- Promises 18 and 19

    private static void promise18NothingToUndo() {
        FRESH.refused("18: none", Expect.STATE, hall -> hall.undo());
        FRESH.answers("19: none", 0, hall -> hall.undoCount());
        Edges one = FRESH.after(hall -> hall.endDays(1));
        one.answers("19: one", 1, hall -> hall.undoCount());
        one.answers("18: none is left", 0, hall -> hall.undo());
        one.after(hall -> hall.undo()).refused("18: not twice", Expect.STATE, hall -> hall.undo());
        one.after(hall -> hall.undo()).answers("19: not below 0", 0, hall -> hall.undoCount());
        one.after(hall -> hall.save()).after(hall -> hall.restore()).refused("18: not behind a restore",
                Expect.STATE, hall -> hall.undo());
    }

    private static void promise18TheLatestEight() {
        for (int changes = 0; changes <= 20; changes++) {
            ClimbingHall hall = new ClimbingHall();
            for (int day = 0; day < changes; day++) {
                hall.endDays(1);
            }
            int undos = Math.min(changes, MOST_UNDOS);
            EXPECT.equal("19: after " + changes, hall.undoCount(), undos);
            for (int left = undos - 1; left >= 0; left--) {
                EXPECT.equal("18: still to undo", hall.undo(), left);
                EXPECT.equal("19: still to undo", hall.undoCount(), left);
                EXPECT.equal("18: the day", hall.count(6), changes - undos + left);
            }
            EXPECT.fails("18: not the ninth", Expect.STATE, () -> hall.undo());
            EXPECT.equal("18: the day stays", hall.count(6), changes - undos);
        }
    }

    /** So many changes, so many undos, so many changes again, with a list of days beside them. */
    private static void promise18UndoneAndChangedAgain() {
        for (int first = 0; first <= 17; first++) {
            for (int undone = 0; undone <= Math.min(first, MOST_UNDOS); undone++) {
                for (int second = 0; second <= 9; second++) {
                    ClimbingHall hall = new ClimbingHall();
                    List<Integer> days = new ArrayList<>();
                    change(hall, days, first, 1);
                    undo(hall, days, undone);
                    change(hall, days, second, 13);
                    undo(hall, days, days.size());
                    EXPECT.fails("18: all undone", Expect.STATE, () -> hall.undo());
                }
            }
        }
    }

    private static void change(ClimbingHall hall, List<Integer> days, int times, int step) {
        for (int i = 0; i < times; i++) {
            days.add(hall.count(6));
            hall.endDays(step);
            if (days.size() > MOST_UNDOS) {
                days.remove(0);
            }
        }
    }

    private static void undo(ClimbingHall hall, List<Integer> days, int times) {
        for (int i = 0; i < times; i++) {
            int due = days.remove(days.size() - 1);
            EXPECT.equal("18: still to undo", hall.undo(), days.size());
            EXPECT.equal("18: the day before the change", hall.count(6), due);
        }
    }

    /** In a full hall a change is the latest of 8, and its undo leaves 7. */
    private static void promise18EachChangeOfAFullHall() {
        expectUndone("setRoute", hall -> hall.removeRoute(0), hall -> hall.setRoute(7, 29));
        expectUndone("removeRoute, the first", hall -> { }, hall -> hall.removeRoute(0));
        expectUndone("removeRoute, the last", hall -> { }, hall -> hall.removeRoute(23));
        expectUndone("climb", hall -> { }, hall -> hall.climb(11, 0));
        expectUndone("vote", hall -> { }, hall -> hall.vote(11, 23, 0));
        expectUndone("lend", hall -> hall.giveBack(0), hall -> hall.lend(0, 12));
        expectUndone("giveBack", hall -> { }, hall -> hall.giveBack(11));
        expectUndone("check", hall -> { }, hall -> hall.check(13, true));
        expectUndone("check, not good", hall -> { }, hall -> hall.check(12, false));
        expectUndone("enroll", hall -> hall.leaveCourse(11), hall -> hall.enroll(11, 7));
        expectUndone("leaveCourse", hall -> { }, hall -> hall.leaveCourse(0));
        expectUndone("finish", hall -> { }, hall -> hall.finish(7, -1));
        expectUndone("finish, nobody passed", hall -> { }, hall -> hall.finish(7, 0));
        expectUndone("postpone", hall -> { }, hall -> hall.postpone(7, 14));
        expectUndone("endDays, one", hall -> { }, hall -> hall.endDays(1));
        expectUndone("endDays, sixty", hall -> { }, hall -> hall.endDays(60));
    }

    private static void expectUndone(String what, Consumer<ClimbingHall> before,
            Consumer<ClimbingHall> change) {
        boolean changed = false;
        for (int portion = 0; portion < Halls.PORTIONS; portion++) {
            ClimbingHall untouched = Halls.full();
            before.accept(untouched);
            ClimbingHall hall = Halls.full();
            before.accept(hall);
            change.accept(hall);
            String due = Halls.portion(untouched, portion);
            changed |= !Halls.portion(hall, portion).equals(due);
            ClimbingHall undone = Halls.full();
            before.accept(undone);
            change.accept(undone);
            EXPECT.equal("19: after " + what, undone.undoCount(), 8);
            expectBuffer("2: the buffer after " + what, undone);
            EXPECT.equal("18: undo of " + what, undone.undo(), 7);
            expectBuffer("18: the buffer after the undo of " + what, undone);
            EXPECT.equal("18: all is back, " + what,
                    Halls.portion(undone, portion).equals(due) ? 1 : 0, 1);
        }
        EXPECT.equal("18: there was something to undo, " + what, changed ? 1 : 0, 1);
    }

    /** The buffer of a full hall has 600 bytes, which are a valid text. */
    private static void expectBuffer(String what, ClimbingHall hall) {
        EXPECT.equal(what + ", length", hall.append(0, 0, 0, 0, 0), 600);
        EXPECT.equal(what + ", text", hall.errorPosition(), -1);
    }

    private static void promise18WithoutEffect() {
        expectWithoutEffect("an empty course", hall -> { }, hall -> hall.finish(0, -1));
        expectWithoutEffect("a check on the day of the last one", hall -> { },
                hall -> hall.check(0, true));
        expectWithoutEffect("the same vote", hall -> {
            hall.setRoute(0, 5);
            hall.lend(0, 0);
            hall.climb(0, 0);
            hall.vote(0, 0, 9);
        }, hall -> hall.vote(0, 0, 9));
    }

    private static void expectWithoutEffect(String what, Consumer<ClimbingHall> before,
            Consumer<ClimbingHall> change) {
        ClimbingHall hall = new ClimbingHall();
        before.accept(hall);
        int changes = hall.undoCount();
        String same = Halls.picture(hall);
        change.accept(hall);
        expectSame("18: " + what + " has no effect", hall, same);
        EXPECT.equal("18: " + what + " is a change", hall.undoCount(), changes + 1);
        EXPECT.equal("18: undo of " + what, hall.undo(), changes);
        expectSame("18: undo of " + what, hall, same);
    }

    private static void promise18NoChanges() {
        FULL.changesNothing("19: undoCount", hall -> hall.undoCount());
        FULL.changesNothing("2: nothing appended", hall -> hall.append(0, 0, 0, 0, 0));
        Edges[] all = {FULL.after(hall -> hall.truncate(0)), FULL.after(hall -> hall.save())};
        for (Edges edges : all) {
            edges.answers("18: no change", 8, hall -> hall.undoCount());
            edges.answers("18: still to undo", 7, hall -> hall.undo());
        }
        Edges some = FRESH.after(hall -> hall.endDays(5));
        some.after(hall -> Halls.put(hall, "wall")).answers("18: append is none", 1,
                hall -> hall.undoCount());
        some.after(hall -> hall.save()).answers("20: save is none", 1, hall -> hall.undoCount());
        Edges restored = some.after(hall -> hall.save()).after(hall -> hall.restore());
        restored.answers("21: restore is none, and clears", 0, hall -> hall.undoCount());
    }

    /** A refused call takes no place among the latest eight. */
    private static void promise18RefusedCalls() {
        List<Consumer<ClimbingHall>> state = List.of(hall -> hall.setRoute(7, 5),
                hall -> hall.climb(0, 0), hall -> hall.vote(1, 22, 5), hall -> hall.lend(1, 12),
                hall -> hall.giveBack(0), hall -> hall.check(14, true), hall -> hall.enroll(1, 0),
                hall -> hall.leaveCourse(0), hall -> hall.append(1, 0, 0, 0, 0));
        Edges without = FULL.after(hall -> hall.giveBack(0)).after(hall -> hall.leaveCourse(0));
        for (Consumer<ClimbingHall> call : state) {
            without.refused("18: a call that the state does not allow", Expect.STATE, call);
        }
        List<Consumer<ClimbingHall>> outside = List.of(hall -> hall.setRoute(8, 5),
                hall -> hall.removeRoute(24), hall -> hall.climb(12, 0), hall -> hall.vote(0, 24, 5),
                hall -> hall.lend(0, 15), hall -> hall.giveBack(12), hall -> hall.check(15, true),
                hall -> hall.enroll(0, 8), hall -> hall.leaveCourse(-1), hall -> hall.finish(8, 1));
        for (Consumer<ClimbingHall> call : outside) {
            FULL.refused("18: a call for nothing that exists", Expect.OUTSIDE, call);
        }
        Edges wrong = FULL.after(hall -> hall.truncate(9));
        List<Consumer<ClimbingHall>> argument = List.of(hall -> hall.setRoute(0, 30),
                hall -> hall.vote(0, 23, 30), hall -> hall.postpone(0, 15), hall -> hall.endDays(61),
                hall -> hall.endDays(0), hall -> hall.truncate(10), hall -> hall.load());
        for (Consumer<ClimbingHall> call : argument) {
            wrong.refused("18: a call with a wrong argument", Expect.ARGUMENT, call);
        }
    }

    private static void promise18And21InputBuffer() {
        ClimbingHall hall = new ClimbingHall();
        Halls.put(hall, "wall 3 0 1;");
        hall.save();
        hall.endDays(1);
        Halls.put(hall, "wall 3 0 1");
        hall.undo();
        EXPECT.equal("18: undo takes nothing off", hall.append(0, 0, 0, 0, 0), 21);
        hall.restore();
        EXPECT.equal("21: restore takes nothing off", hall.append(0, 0, 0, 0, 0), 21);
        EXPECT.equal("21: the text is the same", hall.errorPosition(), -1);
        hall.endDays(1);
        hall.truncate(4);
        hall.undo();
        EXPECT.equal("18: undo puts nothing back", hall.append(0, 0, 0, 0, 0), 4);
        hall.truncate(0);
        hall.restore();
        EXPECT.equal("21: restore puts nothing back", hall.append(0, 0, 0, 0, 0), 0);
        EXPECT.equal("21: restore puts nothing back", hall.errorPosition(), 0);
    }

    // ---- Promises 20 and 21

    private static void promise20Save() {
        FRESH.answers("20: day 0", 0, hall -> hall.save());
        FULL.answers("20: day 3", 3, hall -> hall.save());
        FULL.after(hall -> hall.endDays(60)).answers("20: day 63", 63, hall -> hall.save());
        Edges last = FRESH.daysLater(9999);
        last.answers("20: the last day", 9999, hall -> hall.save());
        Edges twice = last.after(hall -> hall.save()).after(hall -> hall.undo())
                .after(hall -> hall.save());
        twice.answers("20: in place of the earlier one", 9960, hall -> hall.restore());
        // The full hall has a copy: saved again without a change behind, it is the present hall.
        for (int portion = 0; portion < Halls.PORTIONS; portion++) {
            ClimbingHall hall = Halls.full();
            hall.save();
            expectBuffer("20: the buffer after save", hall);
            hall.finish(7, -1);
            hall.restore();
            expectBuffer("21: the buffer after restore", hall);
            EXPECT.equal("20: all of it, portion " + portion,
                    Halls.portion(hall, portion).equals(Halls.portion(Halls.full(), portion)) ? 1 : 0, 1);
        }
    }

    private static void promise20CopyStaysAsItIs() {
        ClimbingHall hall = new ClimbingHall();
        hall.setRoute(0, 5);
        hall.lend(0, 0);
        hall.climb(0, 0);
        hall.save();
        String saved = Halls.picture(hall);
        hall.vote(0, 0, 29);
        hall.climb(0, 0);
        hall.postpone(0, 14);
        hall.setRoute(1, 7);
        hall.undo();
        hall.removeRoute(0);
        hall.giveBack(0);
        hall.check(0, false);
        Halls.put(hall, "wall 3 0 1;x");
        hall.errorPosition();
        EXPECT.fails("20: a load that fails", Expect.ARGUMENT, () -> hall.load());
        EXPECT.fails("20: a change that fails", Expect.STATE, () -> hall.check(0, true));
        EXPECT.equal("21: the day", hall.restore(), 0);
        expectSame("21: the copy", hall, saved);
        hall.endDays(60);
        EXPECT.equal("21: it is kept", hall.restore(), 0);
        expectSame("21: it is kept", hall, saved);
        EXPECT.equal("21: without a change between", hall.restore(), 0);
        expectSame("21: without a change between", hall, saved);
    }

    private static void promise21NoCopy() {
        FRESH.refused("21: none", Expect.STATE, hall -> hall.restore());
        FRESH.after(hall -> hall.endDays(1)).refused("21: a history is no copy", Expect.STATE,
                hall -> hall.restore());
        Edges loaded = FULL.after(hall -> hall.load());
        loaded.refused("21: none behind a load", Expect.STATE, hall -> hall.restore());
        loaded.after(hall -> hall.save()).answers("21: but a new one", 0, hall -> hall.restore());
    }

    private static void promise21Restore() {
        FULL.answers("21: the day", 3, hall -> hall.restore());
        FULL.after(hall -> hall.endDays(9)).answers("21: the day", 3, hall -> hall.restore());
        Edges restored = FULL.after(hall -> hall.restore());
        restored.answers("21: no history", 0, hall -> hall.undoCount());
        restored.refused("21: no history", Expect.STATE, hall -> hall.undo());
        restored.answers("21: nobody had a harness", -1, hall -> hall.member(0, 3));
        restored.answers("21: nothing was retired", 0, hall -> hall.harness(14, 4));
        restored.answers("21: nobody had voted", 0, hall -> hall.route(23, 5));
        restored.refused("21: nor climbed", Expect.STATE, hall -> hall.vote(0, 23, 5));
        restored.changesNothing("21: once more", hall -> hall.restore());
        Edges early = FRESH.after(hall -> hall.save()).after(hall -> hall.endDays(60));
        early.answers("21: back to day 0", 0, hall -> hall.restore());
        Edges late = early.after(hall -> hall.save()).after(hall -> hall.undo());
        late.answers("21: on to day 60", 60, hall -> hall.restore());
    }

    private static void promise21GoesOnFromTheCopy() {
        Edges restored = FULL.after(hall -> hall.restore());
        Edges changed = restored.after(hall -> hall.endDays(2));
        changed.answers("21: a new history", 1, hall -> hall.undoCount());
        changed.answers("21: a new history", 0, hall -> hall.undo());
        changed.after(hall -> hall.undo()).answers("21: back to the copy", 3, hall -> hall.count(6));
        changed.after(hall -> hall.undo()).refused("21: not before it", Expect.STATE,
                hall -> hall.undo());
        Edges nine = restored.after(hall -> {
            for (int i = 0; i < 9; i++) {
                hall.endDays(1);
            }
        });
        nine.answers("21: eight of nine", 8, hall -> hall.undoCount());
        nine.after(hall -> {
            for (int i = 0; i < 8; i++) {
                hall.undo();
            }
        }).answers("21: one day behind the copy", 4, hall -> hall.count(6));
    }
}
