/** Promises 39 to 46: resets ahead, harnesses, and the ladder. */
public final class AheadTest {
    private static final Expect EXPECT = new Expect("AheadTest");

    public static void main(String[] args) {
        promise39OpenWalls();
        promise40WorstDay();
        promise41ShiftFor();
        promise41Limit();
        promise42Lendable();
        promise43Lapsing();
        promise44ChecksNeeded();
        promise44RetiredAndLent();
        promise45AllowedRoutes();
        promise46Ladder();
        EXPECT.finish();
    }

    private static void promise39OpenWalls() {
        ClimbingHall hall = Halls.of("wall 9 0 4;wall 9 0 6;wall 9 0 1");
        EXPECT.equal("39: today", hall.openWalls(0), 0b111);
        EXPECT.equal("39: day 3", hall.openWalls(3), 0b011);
        EXPECT.equal("39: day 4", hall.openWalls(4), 0b010);
        EXPECT.equal("39: day 6", hall.openWalls(6), 0b001);
        EXPECT.equal("39: day 12", hall.openWalls(12), 0);
        EXPECT.equal("39: the last day", hall.openWalls(9999), 0b011);
        EXPECT.equal("39: far", hall.openWalls(9996), 0);
        EXPECT.fails("39: 10000", Expect.ARGUMENT, () -> hall.openWalls(10000));
        EXPECT.fails("39: -1", Expect.ARGUMENT, () -> hall.openWalls(-1));
        hall.endDays(4);
        EXPECT.equal("39: closed today", hall.openWalls(4), 0b010);
        EXPECT.fails("39: yesterday", Expect.ARGUMENT, () -> hall.openWalls(3));
        hall.postpone(0, 3);
        EXPECT.equal("39: postponed", hall.openWalls(4), 0b011);
        EXPECT.equal("39: to this day", hall.openWalls(7), 0b010);
        EXPECT.equal("39: not before it", hall.openWalls(8), 0b011);
        EXPECT.equal("39: and a period later", hall.openWalls(11), 0b010);
        hall.postpone(1, 14);
        EXPECT.equal("39: none before the next reset", hall.openWalls(14) & 0b010, 0b010);
        EXPECT.equal("39: the next reset", hall.openWalls(20) & 0b010, 0);
    }

    private static void promise40WorstDay() {
        ClimbingHall hall = Halls.of("wall 9 0 4;wall 9 0 6");
        EXPECT.equal("40: all open", hall.worstDay(4), 0);
        EXPECT.equal("40: one closed", hall.worstDay(5), 4);
        EXPECT.equal("40: the first of several", hall.worstDay(12), 4);
        EXPECT.equal("40: both closed", hall.worstDay(13), 12);
        EXPECT.equal("40: the first of both", hall.worstDay(365), 12);
        EXPECT.fails("40: 0", Expect.ARGUMENT, () -> hall.worstDay(0));
        EXPECT.fails("40: 366", Expect.ARGUMENT, () -> hall.worstDay(366));
        hall.endDays(4);
        EXPECT.equal("40: today", hall.worstDay(1), 4);
        EXPECT.equal("40: today", hall.worstDay(8), 4);
        EXPECT.equal("40: from today on", hall.worstDay(9), 12);
        hall.endDays(7);
        EXPECT.equal("40: tomorrow", hall.worstDay(30), 12);
        EXPECT.equal("40: no walls", Halls.of("member 1 1").worstDay(365), 0);
        ClimbingHall late = Halls.of("wall 9 0 60");
        for (int i = 0; i < 166; i++) {
            late.endDays(60);
        }
        late.endDays(39);
        EXPECT.equal("40: beyond 9999", late.worstDay(365), 10020);
        EXPECT.equal("40: the last day itself", late.worstDay(21), 9999);
    }

    private static void promise41ShiftFor() {
        ClimbingHall hall = Halls.of("wall 9 0 4;wall 9 0 6;wall 9 0 12;wall 9 0 13");
        EXPECT.fails("41: wall -1", Expect.OUTSIDE, () -> hall.shiftFor(-1));
        EXPECT.fails("41: wall 4", Expect.OUTSIDE, () -> hall.shiftFor(4));
        EXPECT.equal("41: none needed", hall.shiftFor(0), 0);
        EXPECT.equal("41: none needed", hall.shiftFor(1), 0);
        EXPECT.equal("41: away from 12 and from 13", hall.shiftFor(2), 2);
        EXPECT.equal("41: alone", hall.shiftFor(3), 0);
        ClimbingHall never = Halls.of("wall 9 0 60;wall 9 0 1");
        EXPECT.fails("41: always another one", Expect.NO_ELEMENT, () -> never.shiftFor(0));
        EXPECT.equal("41: but not on that day yet", never.shiftFor(1), 0);
        EXPECT.equal("41: one wall", Halls.of("wall 9 0 1").shiftFor(0), 0);
        ClimbingHall most = Halls.of("wall 9 0 1;wall 9 0 1");
        most.postpone(1, 14);
        EXPECT.equal("41: the other one is later", most.shiftFor(0), 0);
        EXPECT.fails("41: the other one is always there", Expect.NO_ELEMENT, () -> most.shiftFor(1));
    }

    private static void promise41Limit() {
        ClimbingHall week = Halls.of("wall 9 0 14;wall 9 0 7;wall 9 0 7;wall 9 0 7;wall 9 0 7;"
                + "wall 9 0 7;wall 9 0 7");
        for (int wall = 2; wall < 7; wall++) {
            week.postpone(wall, wall - 1);
        }
        EXPECT.equal("41: one day in seven is left", week.shiftFor(0), 6);
        ClimbingHall hall = Halls.of("wall 9 0 55;wall 9 0 2;wall 9 0 4;wall 9 0 8;wall 9 0 60;"
                + "wall 9 0 60");
        // From day 55 on: the days with an even number, then 55, 59 .., then 57 and 65, then 61.
        hall.postpone(2, 3);
        hall.postpone(3, 1);
        hall.postpone(4, 1);
        EXPECT.equal("41: fourteen days", hall.shiftFor(0), 14);
        hall.postpone(5, 9);
        EXPECT.fails("41: fifteen days", Expect.NO_ELEMENT, () -> hall.shiftFor(0));
    }

    private static void promise42Lendable() {
        ClimbingHall hall = Halls.of("harness 1 5;harness 2 9;harness 1 9;harness 1 9;harness 0 2;"
                + "harness 3 2;member 1 0");
        EXPECT.equal("42: size 0", hall.lendable(0), 0b010000);
        EXPECT.equal("42: size 1", hall.lendable(1), 0b001101);
        EXPECT.equal("42: size 3", hall.lendable(3), 0b100000);
        hall.lend(0, 2);
        EXPECT.equal("42: a lent one", hall.lendable(1), 0b001001);
        hall.check(3, false);
        EXPECT.equal("42: a retired one", hall.lendable(1), 0b000001);
        hall.endDays(4);
        EXPECT.equal("42: the last day", hall.lendable(1), 0b000001);
        hall.endDays(1);
        EXPECT.equal("42: lapsed", hall.lendable(1), 0);
        EXPECT.fails("42: size -1", Expect.ARGUMENT, () -> hall.lendable(-1));
        EXPECT.fails("42: size 4", Expect.ARGUMENT, () -> hall.lendable(4));
    }

    private static void promise43Lapsing() {
        ClimbingHall hall = Halls.of("harness 1 5;harness 2 9;harness 3 9;harness 0 365;member 1 0");
        EXPECT.equal("43: none today", hall.lapsing(0), 0);
        EXPECT.equal("43: the last day", hall.lapsing(4), 0);
        EXPECT.equal("43: the day of the lapse", hall.lapsing(5), 0b0001);
        EXPECT.equal("43: any size", hall.lapsing(9), 0b0111);
        EXPECT.equal("43: far", hall.lapsing(365), 0b1111);
        hall.lend(0, 0);
        hall.check(2, false);
        EXPECT.equal("43: lent ones, but no retired ones", hall.lapsing(9), 0b0011);
        hall.endDays(5);
        EXPECT.equal("43: from today on", hall.lapsing(0), 0b0001);
        EXPECT.equal("43: from today on", hall.lapsing(4), 0b0011);
        hall.check(1, true);
        EXPECT.equal("43: by the latest check", hall.lapsing(8), 0b0001);
        EXPECT.fails("43: -1", Expect.ARGUMENT, () -> hall.lapsing(-1));
        EXPECT.fails("43: 366", Expect.ARGUMENT, () -> hall.lapsing(366));
    }

    private static void promise44ChecksNeeded() {
        ClimbingHall hall = Halls.of("harness 1 5;harness 1 10;harness 2 1");
        EXPECT.equal("44: in force", hall.checksNeeded(1, 10), 0);
        EXPECT.equal("44: on the day of the lapse", hall.checksNeeded(1, 11), 1);
        EXPECT.equal("44: for its validity", hall.checksNeeded(1, 20), 1);
        EXPECT.equal("44: and again", hall.checksNeeded(1, 21), 2);
        EXPECT.equal("44: each day", hall.checksNeeded(2, 365), 364);
        EXPECT.fails("44: size -1", Expect.ARGUMENT, () -> hall.checksNeeded(-1, 1));
        EXPECT.fails("44: size 4", Expect.ARGUMENT, () -> hall.checksNeeded(4, 1));
        EXPECT.fails("44: 0 days", Expect.ARGUMENT, () -> hall.checksNeeded(1, 0));
        EXPECT.fails("44: 366 days", Expect.ARGUMENT, () -> hall.checksNeeded(1, 366));
        EXPECT.fails("44: days first", Expect.ARGUMENT, () -> hall.checksNeeded(0, 0));
        EXPECT.fails("44: none of the size", Expect.NO_ELEMENT, () -> hall.checksNeeded(0, 1));
        ClimbingHall first = Halls.of("harness 1 10;harness 1 5");
        EXPECT.equal("44: the longest is the first", first.checksNeeded(1, 21), 2);
        hall.endDays(12);
        EXPECT.equal("44: today", hall.checksNeeded(1, 1), 1);
        hall.check(0, true);
        EXPECT.equal("44: not the one in force", hall.checksNeeded(1, 5), 0);
        EXPECT.equal("44: but the longest", hall.checksNeeded(1, 15), 1);
        EXPECT.equal("44: but the longest", hall.checksNeeded(1, 16), 2);
        EXPECT.equal("44: nothing was checked", hall.harness(1, 2), 0);
    }

    private static void promise44RetiredAndLent() {
        ClimbingHall hall = Halls.of("harness 1 5;harness 1 10;harness 1 7;member 1 0");
        hall.lend(0, 2);
        hall.check(1, false);
        EXPECT.equal("44: a lent one is in force", hall.checksNeeded(1, 7), 0);
        EXPECT.equal("44: a lent one is checked", hall.checksNeeded(1, 14), 1);
        EXPECT.equal("44: no retired one", hall.checksNeeded(1, 15), 2);
        hall.giveBack(0);
        hall.check(0, false);
        EXPECT.equal("44: one is left", hall.checksNeeded(1, 8), 1);
        hall.check(2, false);
        EXPECT.fails("44: all retired", Expect.NO_ELEMENT, () -> hall.checksNeeded(1, 1));
        EXPECT.fails("44: days first", Expect.ARGUMENT, () -> hall.checksNeeded(1, 366));
    }

    private static void promise45AllowedRoutes() {
        ClimbingHall hall = Halls.of("rules 20 2 2;wall 9 0 3;wall 9 2 50;wall 9 1 50;harness 1 5;"
                + "harness 1 60;member 1 1;member 1 5");
        EXPECT.equal("45: no routes", hall.allowedRoutes(1), 0);
        hall.setRoute(0, 5);
        hall.setRoute(1, 5);
        hall.setRoute(2, 5);
        hall.setRoute(2, 15);
        EXPECT.equal("45: no harness", hall.allowedRoutes(1), 0);
        hall.lend(0, 0);
        hall.lend(1, 1);
        EXPECT.equal("45: by level", hall.allowedRoutes(0), 0b1101);
        EXPECT.equal("45: all", hall.allowedRoutes(1), 0b1111);
        hall.climb(1, 3);
        EXPECT.equal("45: a worn one", hall.allowedRoutes(1), 0b0111);
        hall.endDays(3);
        EXPECT.equal("45: a closed wall", hall.allowedRoutes(1), 0b0110);
        hall.endDays(2);
        EXPECT.equal("45: lapsed", hall.allowedRoutes(0), 0);
        EXPECT.equal("45: reset", hall.allowedRoutes(1), 0b0011);
        EXPECT.fails("45: member -1", Expect.OUTSIDE, () -> hall.allowedRoutes(-1));
        EXPECT.fails("45: member 2", Expect.OUTSIDE, () -> hall.allowedRoutes(2));
    }

    private static void promise46Ladder() {
        ClimbingHall hall = Halls.of("wall 9 0 60;harness 1 365;member 1 0;member 1 2;member 1 5;"
                + "course 1 1 8;course 1 1 4;course 2 1 3;course 3 1 9;course 3 1 200;course 5 1 0");
        EXPECT.equal("46: the least of a level", hall.ladder(0, 1), 4);
        EXPECT.equal("46: the greatest of the levels", hall.ladder(0, 2), 4);
        EXPECT.equal("46: the next level", hall.ladder(0, 3), 9);
        EXPECT.fails("46: no course", Expect.NO_ELEMENT, () -> hall.ladder(0, 4));
        EXPECT.fails("46: no course on the way", Expect.NO_ELEMENT, () -> hall.ladder(0, 5));
        EXPECT.equal("46: one course", Halls.of("member 1 0;course 1 1 8").ladder(0, 1), 8);
        EXPECT.equal("46: from its own level on", hall.ladder(1, 3), 9);
        EXPECT.equal("46: its own level", hall.ladder(1, 2), 0);
        EXPECT.equal("46: below its own level", hall.ladder(1, 0), 0);
        EXPECT.equal("46: the top", hall.ladder(2, 5), 0);
        EXPECT.equal("46: level 0", hall.ladder(0, 0), 0);
        EXPECT.fails("46: level -1", Expect.ARGUMENT, () -> hall.ladder(0, -1));
        EXPECT.fails("46: level 6", Expect.ARGUMENT, () -> hall.ladder(0, 6));
        EXPECT.fails("46: level before courses", Expect.ARGUMENT, () -> hall.ladder(0, 6));
        EXPECT.fails("46: member -1", Expect.OUTSIDE, () -> hall.ladder(-1, 6));
        EXPECT.fails("46: member 3", Expect.OUTSIDE, () -> hall.ladder(3, 1));
        hall.setRoute(0, 1);
        hall.lend(0, 0);
        Halls.climb(hall, 0, 0, 3);
        EXPECT.equal("46: less its climbs", hall.ladder(0, 1), 1);
        Halls.climb(hall, 0, 0, 2);
        EXPECT.equal("46: at least 0", hall.ladder(0, 1), 0);
        EXPECT.equal("46: the rest", hall.ladder(0, 3), 4);
        EXPECT.equal("46: climbs of another", hall.ladder(1, 3), 9);
    }
}
