import java.util.function.IntUnaryOperator;

/** An object is used for at most 512 calls: the last of them is answered as well as the first. */
public final class LongRunTest {
    private static final Expect EXPECT = new Expect("LongRunTest");
    private static final int CALLS = 512;
    private static final String TEXT = "wall 12 0 7;wall 15 1 10;harness 1 30;harness 1 60;"
            + "harness 1 365;member 1 0;member 1 1;course 1 4 1";
    private static final int PREPARED = (TEXT.length() + 19) / 20 + 1 + 7;

    /** The call of a number, from 0 on, behind those that prepare a hall. */
    private interface Numbered {
        double of(ClimbingHall hall, int call);
    }

    public static void main(String[] args) {
        input();
        routes();
        harnesses();
        courses();
        days();
        history();
        queriesOfTheHall();
        queriesOfGrades();
        queriesAhead();
        refused();
        fiveHundredChecksOfAText();
        fiveHundredClimbs();
        fiveHundredChanges();
        EXPECT.finish();
    }

    /** A route of grade 12 with votes of 16 and 20; its grade is 15 and its wear 4. */
    private static ClimbingHall prepared() {
        ClimbingHall hall = Halls.of(TEXT);
        hall.setRoute(0, 12);
        for (int member = 0; member < 2; member++) {
            hall.lend(member, member);
            hall.climb(member, 0);
            hall.vote(member, 0, 16 + 4 * member);
        }
        return hall;
    }

    private static void expectAll(String what, IntUnaryOperator due, Numbered calls) {
        ClimbingHall hall = prepared();
        for (int call = 0; call < CALLS - PREPARED; call++) {
            EXPECT.equal(what + ", call " + (PREPARED + call + 1), calls.of(hall, call),
                    due.applyAsInt(call));
        }
    }

    private static void expectSame(String what, int due, Numbered query) {
        expectAll(what, call -> due, query);
    }

    // ---- Calls that can be made again and again

    private static void input() {
        expectAll("2: append", call -> call + 1, (hall, call) -> hall.append(' ', 0, 0, 0, 0));
        expectSame("3: truncate", 0, (hall, call) -> hall.truncate(0));
        expectSame("4: errorPosition", 0, (hall, call) -> hall.errorPosition());
        // "wall 3 0 1" in three numbers
        expectAll("5: load", call -> call % 2 == 0 ? 10 : 1, (hall, call) -> call % 2 == 0
                ? hall.append(0x77616c6c, 0x20332030, 0x20310000, 0, 0) : hall.load());
    }

    private static void routes() {
        expectAll("6 and 7: setRoute, removeRoute", call -> call % 2 == 0 ? 1 : 8,
                (hall, call) -> call % 2 == 0 ? hall.setRoute(1, 8) : hall.removeRoute(1));
        expectAll("9: vote", call -> (46 + call % 30) / 4,
                (hall, call) -> hall.vote(0, 0, call % 30));
        expectAll("22: the archive", call -> call % 3 < 2 ? 1 : Math.min(30, call / 3 + 1),
                (hall, call) -> call % 3 == 0 ? hall.setRoute(1, 1)
                : call % 3 == 1 ? hall.removeRoute(1) : hall.count(5));
    }

    private static void harnesses() {
        int[] due = {1, 60, 60};
        expectAll("10 to 12: giveBack, check, lend", call -> due[call % 3], (hall, call) ->
                call % 3 == 0 ? hall.giveBack(1) : call % 3 == 1 ? hall.check(1, true) : hall.lend(1, 1));
    }

    private static void courses() {
        expectAll("13 and 14: enroll, leaveCourse", call -> call % 2 == 0 ? 1 : 0,
                (hall, call) -> call % 2 == 0 ? hall.enroll(0, 0) : hall.leaveCourse(0));
        expectAll("13 and 15: enroll, finish", call -> call % 2 == 0 ? 1 : 0,
                (hall, call) -> call % 2 == 0 ? hall.enroll(0, 0) : hall.finish(0, 0b10));
    }

    private static void days() {
        expectAll("16: postpone", call -> 8 + call, (hall, call) -> hall.postpone(0, 1));
        expectAll("17: endDays", call -> call == 7 ? 1 : 0, (hall, call) -> hall.endDays(1));
        expectAll("17: kept harnesses", call -> call % 2 == 0 ? call / 2 : call == 15 ? 1 : 0,
                (hall, call) -> call % 2 == 0 ? hall.member(1, 5) : hall.endDays(1));
    }

    private static void history() {
        expectAll("18: undo", call -> call % 2 == 0 ? 0 : 7,
                (hall, call) -> call % 2 == 0 ? hall.endDays(1) : hall.undo());
        expectSame("19: undoCount", 7, (hall, call) -> hall.undoCount());
        expectSame("20: save", 0, (hall, call) -> hall.save());
        expectSame("21: restore", 0, (hall, call) -> call % 3 == 0 ? hall.save()
                : call % 3 == 1 ? hall.restore() : hall.undoCount());
    }

    // ---- Queries

    private static void queriesOfTheHall() {
        expectSame("22: count", 1, (hall, call) -> hall.count(1));
        expectSame("23: wall", 7, (hall, call) -> hall.wall(0, 3));
        expectSame("24: route", 4, (hall, call) -> hall.route(0, 3));
        expectSame("26: member", 1, (hall, call) -> hall.member(1, 2));
        expectSame("27: harness", 365, (hall, call) -> hall.harness(2, 3));
        expectSame("28: course", 4, (hall, call) -> hall.course(0, 1));
        expectSame("29: bill", 7, (hall, call) -> hall.bill(0, 7, 9));
    }

    private static void queriesOfGrades() {
        expectSame("30: grade", 15, (hall, call) -> hall.grade(0));
        expectSame("31: meanGrade", 15, (hall, call) -> hall.meanGrade(0, false));
        expectSame("32: voteOf", 20, (hall, call) -> hall.voteOf(1, 0));
        expectSame("33: gradeWith", 16, (hall, call) -> hall.gradeWith(0, 20, 1));
        expectSame("34: votesTo", 6, (hall, call) -> hall.votesTo(0, 16));
        expectSame("35: disputed", 0, (hall, call) -> hall.disputed());
        expectSame("36: hardest", 0, (hall, call) -> hall.hardest(0));
        expectSame("37: climbsLeft", 23, (hall, call) -> hall.climbsLeft(0));
        expectSame("38: averageGrade", 15, (hall, call) -> hall.averageGrade());
    }

    private static void queriesAhead() {
        expectSame("39: openWalls", 0b10, (hall, call) -> hall.openWalls(7));
        expectSame("40: worstDay", 7, (hall, call) -> hall.worstDay(8));
        expectSame("41: shiftFor", 0, (hall, call) -> hall.shiftFor(0));
        expectSame("42: lendable", 0b100, (hall, call) -> hall.lendable(1));
        expectSame("43: lapsing", 0b001, (hall, call) -> hall.lapsing(30));
        expectSame("44: checksNeeded", 0, (hall, call) -> hall.checksNeeded(1, 365));
        expectSame("45: allowedRoutes", 0b1, (hall, call) -> hall.allowedRoutes(0));
        expectSame("46: ladder", 0, (hall, call) -> hall.ladder(0, 1));
    }

    // ---- Runs of one kind

    private static void refused() {
        ClimbingHall hall = prepared();
        for (int call = PREPARED; call < CALLS - 2; call++) {
            if (call % 2 == 0) {
                EXPECT.fails("8: not allowed", Expect.STATE, () -> hall.lend(0, 2));
            } else {
                EXPECT.fails("25: an empty archive", Expect.OUTSIDE, () -> hall.archived(0, 0));
            }
        }
        EXPECT.equal("18: refused calls are no changes", hall.undoCount(), 7);
        EXPECT.equal("30: nothing was changed", hall.grade(0), 15);
    }

    /** Thirty calls fill the buffer, 482 check it. */
    private static void fiveHundredChecksOfAText() {
        ClimbingHall hall = new ClimbingHall();
        Halls.put(hall, "rules 0 0 1;" + Halls.many("member 0 0", 12)
                + ";" + Halls.many("harness 0 001", 15) + " ".repeat(600 - 12 - 132 - 209));
        for (int call = 30; call < CALLS; call++) {
            EXPECT.equal("4: errorPosition", hall.errorPosition(), -1);
        }
    }

    /** Eight calls make the hall, 503 climb its three routes, the last one asks for the bill. */
    private static void fiveHundredClimbs() {
        ClimbingHall hall = Halls.of("rules 0 0 200;wall 3 0 60;harness 0 60;member 0 0");
        for (int route = 0; route < 3; route++) {
            hall.setRoute(0, 9);
        }
        hall.lend(0, 0);
        for (int climb = 0; climb < 503; climb++) {
            EXPECT.equal("8: wear", hall.climb(0, climb / 200), climb % 200 + 1);
        }
        EXPECT.equal("29: all climbs", hall.bill(0, 3, 5), 3 * 503);
    }

    /** 495 changes, then all that can be undone, with a look at the day each time. */
    private static void fiveHundredChanges() {
        ClimbingHall hall = new ClimbingHall();
        for (int day = 0; day < 495; day++) {
            hall.endDays(1);
        }
        EXPECT.equal("19: eight", hall.undoCount(), 8);
        for (int left = 7; left >= 0; left--) {
            EXPECT.equal("18: undo", hall.undo(), left);
            EXPECT.equal("18: the day", hall.count(6), 495 - 8 + left);
        }
        ClimbingHall all = new ClimbingHall();
        for (int day = 0; day < 510; day++) {
            all.endDays(1);
        }
        EXPECT.equal("18: the last call but one", all.undo(), 7);
        EXPECT.equal("18: the day", all.count(6), 509);
    }
}
