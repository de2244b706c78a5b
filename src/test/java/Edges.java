import java.util.ArrayList;
import java.util.List;
import java.util.function.Consumer;
import java.util.function.ObjIntConsumer;
import java.util.function.Supplier;
import java.util.function.ToIntFunction;

/**
 * Calls at the edges of what is allowed, each on a hall of its own in one and the same state. What
 * such a hall shows (its parts, after each undo and after a restore, too) is compared with what a
 * hall shows on which the call was not made, so that a refused call is seen to change nothing.
 */
final class Edges {
    private final Expect expect;
    private final Supplier<ClimbingHall> maker;
    private final int changes;
    private final boolean hasCopy;
    private final List<String> untouched;

    Edges(Expect expect, Supplier<ClimbingHall> maker) {
        this.expect = expect;
        this.maker = maker;
        changes = maker.get().undoCount();
        hasCopy = Expect.thrownBy(() -> maker.get().restore()) == null;
        untouched = seenAfter(hall -> { });
    }

    /** The same state after one more call. */
    Edges after(Consumer<ClimbingHall> call) {
        return new Edges(expect, () -> {
            ClimbingHall hall = maker.get();
            call.accept(hall);
            return hall;
        });
    }

    /** The same state when so many days have ended. */
    Edges daysLater(int days) {
        return after(hall -> Halls.endDays(hall, days));
    }

    void answers(String what, int due, ToIntFunction<ClimbingHall> call) {
        expect.equal(what, call.applyAsInt(maker.get()), due);
    }

    /** The call throws this exception, and the hall is then as if it had not been made. */
    void refused(String what, Class<?> due, Consumer<ClimbingHall> call) {
        expect.fails(what, due, () -> call.accept(maker.get()));
        if (!seenAfter(hall -> Expect.thrownBy(() -> call.accept(hall))).equals(untouched)) {
            expect.report(what + " was refused, but changed something");
        }
    }

    /** The call answers, and the hall is then as if it had not been made. */
    void changesNothing(String what, Consumer<ClimbingHall> call) {
        expect.fails(what, null, () -> call.accept(maker.get()));
        if (!seenAfter(call).equals(untouched)) {
            expect.report(what + " changed something");
        }
    }

    /** The least and the greatest number are allowed, those beyond them are refused. */
    void range(String what, Class<?> due, int least, int greatest,
            ObjIntConsumer<ClimbingHall> call) {
        for (int allowed : new int[] {least, greatest}) {
            expect.fails(what + " " + allowed, null, () -> call.accept(maker.get(), allowed));
        }
        int[] beyond = {least - 1, greatest + 1, Integer.MIN_VALUE, Integer.MAX_VALUE};
        for (int refused : beyond) {
            refused(what + " " + refused, due, hall -> call.accept(hall, refused));
        }
    }

    /** Numbers of things of which there are so many, from 0 on. */
    void rows(String what, int number, ObjIntConsumer<ClimbingHall> call) {
        range(what, Expect.OUTSIDE, 0, number - 1, call);
    }

    /** Each part is looked at on a new hall, so that none of them is asked more than 512 times. */
    private List<String> seenAfter(Consumer<ClimbingHall> call) {
        List<String> seen = new ArrayList<>();
        int last = hasCopy ? changes + 1 : changes;
        for (int undos = 0; undos <= last; undos++) {
            for (int portion = 0; portion < Halls.PORTIONS; portion++) {
                ClimbingHall hall = maker.get();
                call.accept(hall);
                goBack(hall, undos);
                // The buffer is checked last, so that a check that changed the hall would be seen.
                seen.add(hall.undoCount() + " " + hall.append(0, 0, 0, 0, 0) + " "
                        + Halls.portion(hall, portion) + " " + hall.errorPosition());
            }
        }
        return seen;
    }

    /** One undo more than there are changes stands for the saved copy. */
    private void goBack(ClimbingHall hall, int undos) {
        if (undos > changes) {
            hall.restore();
            return;
        }
        // A call that was a change, though it should not be one, makes the undos end elsewhere.
        for (int undo = 0; undo < undos; undo++) {
            hall.undo();
        }
    }
}
