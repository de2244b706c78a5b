/** The edges of promises 39 to 46: resets ahead, harnesses and the ladder. */
public final class AheadEdgesTest {
    private static final Expect EXPECT = new Expect("AheadEdgesTest");
    private static final Edges FRESH = new Edges(EXPECT, ClimbingHall::new);
    private static final Edges FULL = new Edges(EXPECT, Halls::full);
    private static final Edges EMPTY = of("rules 20 2 50");

    public static void main(String[] args) {
        promise39Days();
        promise39Sets();
        promise39Postponed();
        promise40Days();
        promise40OneDayMore();
        promise40BeyondTheLastDay();
        promise41Numbers();
        promise41Shifts();
        promise41LaterResets();
        promise42Numbers();
        promise42NotLendable();
        promise43Days();
        promise43Lapsed();
        promise44Numbers();
        promise44NoHarness();
        promise44OneDayMore();
        promise44WhichIsChecked();
        promise45Numbers();
        promise45EachReason();
        promise46Numbers();
        promise46Need();
        promise46FullCourses();
        promise46NoCourse();
        EXPECT.finish();
    }

    private static Edges of(String text) {
        return new Edges(EXPECT, () -> Halls.of(text));
    }

    // ---- Promise 39

    private static void promise39Days() {
        FRESH.range("39: day", Expect.ARGUMENT, 0, 9999, (hall, day) -> hall.openWalls(day));
        FULL.range("39: from today on", Expect.ARGUMENT, 3, 9999, (hall, day) -> hall.openWalls(day));
        FRESH.daysLater(9998).range("39: today and one more", Expect.ARGUMENT, 9998, 9999,
                (hall, day) -> hall.openWalls(day));
        FRESH.daysLater(9999).range("39: today alone", Expect.ARGUMENT, 9999, 9999,
                (hall, day) -> hall.openWalls(day));
        FULL.changesNothing("39: a question", hall -> hall.openWalls(4));
    }

    private static void promise39Sets() {
        EMPTY.answers("39: no walls", 0, hall -> hall.openWalls(0));
        FULL.answers("39: eight open walls", 0b11111111, hall -> hall.openWalls(3));
        FULL.answers("39: none", 0, hall -> hall.openWalls(4));
        FULL.answers("39: eight again", 0b11111111, hall -> hall.openWalls(9999));
        FULL.answers("39: none", 0, hall -> hall.openWalls(9998));
        Edges daily = of("wall 3 0 1;wall 3 0 60");
        daily.answers("39: not yet", 0b11, hall -> hall.openWalls(0));
        daily.answers("39: each day", 0b10, hall -> hall.openWalls(1));
        daily.answers("39: each day", 0b10, hall -> hall.openWalls(59));
        daily.answers("39: both", 0, hall -> hall.openWalls(60));
        daily.answers("39: each day", 0b10, hall -> hall.openWalls(61));
        daily.answers("39: far", 0, hall -> hall.openWalls(9960));
        daily.daysLater(60).answers("39: both today", 0, hall -> hall.openWalls(60));
        for (int day = 0; day <= 30; day++) {
            int asked = day;
            int due = (day == 0 || day % 7 != 0 ? 1 : 0) | (day == 0 || day % 10 != 0 ? 2 : 0);
            FRESH.answers("39: day " + day, due, hall -> hall.openWalls(asked));
        }
    }

    private static void promise39Postponed() {
        Edges closed = FRESH.daysLater(7);
        closed.answers("39: closed today", 0b10, hall -> hall.openWalls(7));
        Edges postponed = closed.after(hall -> hall.postpone(0, 1));
        postponed.answers("39: open today then", 0b11, hall -> hall.openWalls(7));
        postponed.answers("39: closed tomorrow", 0b10, hall -> hall.openWalls(8));
        postponed.answers("39: the later ones move with it", 0b11, hall -> hall.openWalls(14));
        postponed.answers("39: the later ones move with it", 0b10, hall -> hall.openWalls(15));
        // The next reset is later than one period from today.
        Edges far = FRESH.after(hall -> hall.postpone(0, 14));
        for (int day = 0; day < 21; day++) {
            int asked = day;
            far.answers("39: none before the next reset", 1, hall -> hall.openWalls(asked) & 1);
        }
        far.answers("39: the next reset", 0, hall -> hall.openWalls(21) & 1);
    }

    // ---- Promise 40

    private static void promise40Days() {
        FRESH.range("40: days", Expect.ARGUMENT, 1, 365, (hall, days) -> hall.worstDay(days));
        EMPTY.range("40: days", Expect.ARGUMENT, 1, 365, (hall, days) -> hall.worstDay(days));
        FRESH.daysLater(9999).range("40: days", Expect.ARGUMENT, 1, 365,
                (hall, days) -> hall.worstDay(days));
        FULL.changesNothing("40: a question", hall -> hall.worstDay(365));
        EMPTY.answers("40: no walls", 0, hall -> hall.worstDay(365));
        EMPTY.daysLater(5).answers("40: no walls, today", 5, hall -> hall.worstDay(365));
    }

    private static void promise40OneDayMore() {
        FRESH.answers("40: 7 days, 0 to 6", 0, hall -> hall.worstDay(7));
        FRESH.answers("40: 8 days, 0 to 7", 7, hall -> hall.worstDay(8));
        FRESH.answers("40: the first of several", 7, hall -> hall.worstDay(70));
        FRESH.answers("40: 71 days, 0 to 70", 70, hall -> hall.worstDay(71));
        FRESH.answers("40: 70, not 140 or 210", 70, hall -> hall.worstDay(365));
        FRESH.daysLater(6).answers("40: today alone", 6, hall -> hall.worstDay(1));
        FRESH.daysLater(6).answers("40: and tomorrow", 7, hall -> hall.worstDay(2));
        FRESH.daysLater(7).answers("40: today is one of them", 7, hall -> hall.worstDay(63));
        FRESH.daysLater(7).answers("40: until day 70", 70, hall -> hall.worstDay(64));
        Edges year = of("wall 3 0 52;wall 3 0 7");
        year.answers("40: both on the last of 365 days", 364, hall -> hall.worstDay(365));
        year.answers("40: one day less", 7, hall -> hall.worstDay(364));
        Edges postponed = FRESH.daysLater(7).after(hall -> hall.postpone(0, 3));
        postponed.answers("40: both on day 10 now", 10, hall -> hall.worstDay(4));
        postponed.answers("40: open until then", 7, hall -> hall.worstDay(3));
        of(Halls.many("wall 3 0 1", 8)).answers("40: eight closed walls", 1,
                hall -> hall.worstDay(365));
    }

    private static void promise40BeyondTheLastDay() {
        Edges last = of("wall 3 0 60;wall 3 0 59").daysLater(9999);
        // 60 * 167 is 10020, 59 * 170 is 10030; both fall on 59 * 60 * 3, which is 10620.
        last.answers("40: 21 days, to 10019", 9999, hall -> hall.worstDay(21));
        last.answers("40: 22 days, to 10020", 10020, hall -> hall.worstDay(22));
        last.answers("40: the first of several", 10020, hall -> hall.worstDay(365));
        Edges later = of("wall 3 0 60;wall 3 0 48").daysLater(9999);
        later.answers("40: both on 10080", 10080, hall -> hall.worstDay(365));
    }

    // ---- Promise 41

    private static void promise41Numbers() {
        of(Halls.many("wall 3 0 60", 8)).rows("41: wall", 8, (hall, wall) -> hall.shiftFor(wall));
        EMPTY.refused("41: no walls", Expect.OUTSIDE, hall -> hall.shiftFor(0));
        FULL.rows("41: wall", 8, (hall, wall) -> hall.shiftFor(wall));
        FULL.changesNothing("41: a question", hall -> hall.shiftFor(7));
        of("wall 3 0 60").answers("41: the only wall", 0, hall -> hall.shiftFor(0));
        FULL.answers("41: all on even days", 1, hall -> hall.shiftFor(0));
    }

    private static void promise41Shifts() {
        for (int number = 0; number <= 7; number++) {
            int others = number;
            Edges edges = of(Halls.many("wall 3 0 60", 1 + others)).after(hall -> {
                for (int other = 1; other <= others; other++) {
                    bringTo(hall, other, 59 + other);
                }
            });
            edges.answers("41: the others day by day", others, hall -> hall.shiftFor(0));
        }
        Edges most = daysTaken(60);
        most.answers("41: 14 days", 14, hall -> hall.shiftFor(0));
        most.after(hall -> hall.undo()).answers("41: 66 is free", 6, hall -> hall.shiftFor(0));
        daysTaken(8).refused("41: 15 days", Expect.NO_ELEMENT, hall -> hall.shiftFor(0));
        daysTaken(8).refused("41: wall first", Expect.OUTSIDE, hall -> hall.shiftFor(5));
        daysTaken(4).refused("41: 16 days", Expect.NO_ELEMENT, hall -> hall.shiftFor(0));
    }

    /** The odd days, 60, 64 and so on, 62, 70 and so on, and from 66 on those of one more period. */
    private static Edges daysTaken(int period) {
        String text = "wall 3 0 60;wall 3 0 2;wall 3 0 4;wall 3 0 8;wall 3 0 " + period;
        return of(text).after(hall -> {
            bringTo(hall, 1, 61);
            bringTo(hall, 2, 60);
            bringTo(hall, 3, 62);
            bringTo(hall, 4, 66);
        });
    }

    /** Postpones the next reset of a wall to a day. */
    private static void bringTo(ClimbingHall hall, int wall, int day) {
        while (hall.wall(wall, 3) < day) {
            hall.postpone(wall, Math.min(14, day - hall.wall(wall, 3)));
        }
    }

    private static void promise41LaterResets() {
        Edges edges = of("wall 3 0 10;wall 3 0 5");
        edges.answers("41: the second reset of the other", 1, hall -> hall.shiftFor(0));
        edges.answers("41: before the first of the other", 0, hall -> hall.shiftFor(1));
        edges.after(hall -> hall.postpone(1, 6)).answers("41: the other is later", 0,
                hall -> hall.shiftFor(0));
        edges.after(hall -> hall.postpone(1, 5)).answers("41: on the same day", 1,
                hall -> hall.shiftFor(0));
        edges.after(hall -> hall.postpone(0, 1)).answers("41: postponed already", 0,
                hall -> hall.shiftFor(0));
        of("wall 3 0 3;wall 3 0 3").answers("41: on the same day", 1, hall -> hall.shiftFor(1));
        of("wall 3 0 3;wall 3 0 3").daysLater(3).answers("41: both today", 1, hall -> hall.shiftFor(1));
        of("wall 3 0 60;wall 3 0 1").refused("41: each day", Expect.NO_ELEMENT,
                hall -> hall.shiftFor(0));
        of("wall 3 0 1;wall 3 0 2").answers("41: day 1 is free", 0, hall -> hall.shiftFor(0));
    }

    // ---- Promise 42

    private static void promise42Numbers() {
        FULL.range("42: size", Expect.ARGUMENT, 0, 3, (hall, size) -> hall.lendable(size));
        EMPTY.range("42: size", Expect.ARGUMENT, 0, 3, (hall, size) -> hall.lendable(size));
        FULL.changesNothing("42: a question", hall -> hall.lendable(0));
        for (int size = 0; size <= 3; size++) {
            int asked = size;
            EMPTY.answers("42: no harnesses", 0, hall -> hall.lendable(asked));
            of("harness 0 1;harness 1 1;harness 2 1;harness 3 1").answers("42: one of each", 1 << size,
                    hall -> hall.lendable(asked));
            of(Halls.many("harness " + size + " 365", 15)).answers("42: all", 0b111111111111111,
                    hall -> hall.lendable(asked));
            of(Halls.many("harness " + size + " 365", 15)).answers("42: none", 0,
                    hall -> hall.lendable(3 - asked));
        }
    }

    private static void promise42NotLendable() {
        FULL.answers("42: neither lent, lapsed nor retired", 1 << 12, hall -> hall.lendable(0));
        FULL.after(hall -> hall.giveBack(0)).answers("42: given back", 1 << 12 | 1,
                hall -> hall.lendable(0));
        FULL.after(hall -> hall.check(13, true)).answers("42: checked", 0b11 << 12,
                hall -> hall.lendable(0));
        FULL.after(hall -> hall.check(12, false)).answers("42: retired", 0, hall -> hall.lendable(0));
        FRESH.daysLater(29).answers("42: the last day of one", 0b11, hall -> hall.lendable(1));
        FRESH.daysLater(30).answers("42: the day of its lapse", 0b10, hall -> hall.lendable(1));
        FRESH.daysLater(59).answers("42: the last day of the other", 0b10, hall -> hall.lendable(1));
        FRESH.daysLater(60).answers("42: the day of its lapse", 0, hall -> hall.lendable(1));
    }

    // ---- Promise 43

    private static void promise43Days() {
        FULL.range("43: days", Expect.ARGUMENT, 0, 365, (hall, days) -> hall.lapsing(days));
        EMPTY.range("43: days", Expect.ARGUMENT, 0, 365, (hall, days) -> hall.lapsing(days));
        FRESH.daysLater(9999).range("43: days", Expect.ARGUMENT, 0, 365,
                (hall, days) -> hall.lapsing(days));
        FULL.changesNothing("43: a question", hall -> hall.lapsing(365));
        EMPTY.answers("43: no harnesses", 0, hall -> hall.lapsing(365));
    }

    private static void promise43Lapsed() {
        Edges edges = of("harness 0 1;harness 3 364;harness 1 365");
        edges.answers("43: today", 0, hall -> hall.lapsing(0));
        edges.answers("43: tomorrow", 0b001, hall -> hall.lapsing(1));
        edges.answers("43: 363 days", 0b001, hall -> hall.lapsing(363));
        edges.answers("43: 364 days", 0b011, hall -> hall.lapsing(364));
        edges.answers("43: 365 days", 0b111, hall -> hall.lapsing(365));
        edges.daysLater(1).answers("43: lapsed today", 0b001, hall -> hall.lapsing(0));
        edges.daysLater(1).answers("43: 363 days on", 0b011, hall -> hall.lapsing(363));
        edges.daysLater(1).after(hall -> hall.check(2, true)).answers("43: checked", 0b011,
                hall -> hall.lapsing(364));
        edges.daysLater(1).after(hall -> hall.check(0, false)).answers("43: a retired one", 0,
                hall -> hall.lapsing(0));
        edges.daysLater(365).answers("43: all", 0b111, hall -> hall.lapsing(0));
        FULL.answers("43: lapsed, not retired", 1 << 13, hall -> hall.lapsing(0));
        FULL.answers("43: not those that are lent yet", 1 << 13, hall -> hall.lapsing(86));
        FULL.answers("43: those that are lent, too", 0b010111111111111, hall -> hall.lapsing(87));
        FULL.answers("43: all but the retired one", 0b011111111111111, hall -> hall.lapsing(362));
        of(Halls.many("harness 2 1", 15)).answers("43: fifteen", 0b111111111111111,
                hall -> hall.lapsing(1));
    }

    // ---- Promise 44

    private static void promise44Numbers() {
        Edges each = of("harness 0 1;harness 1 1;harness 2 1;harness 3 1");
        each.range("44: size", Expect.ARGUMENT, 0, 3, (hall, size) -> hall.checksNeeded(size, 1));
        each.range("44: days", Expect.ARGUMENT, 1, 365, (hall, days) -> hall.checksNeeded(0, days));
        FULL.changesNothing("44: a question", hall -> hall.checksNeeded(0, 365));
        each.daysLater(9999).answers("44: beyond the last day", 365, hall -> hall.checksNeeded(3, 365));
    }

    private static void promise44NoHarness() {
        for (int size = 0; size <= 3; size++) {
            int asked = size;
            EMPTY.refused("44: none", Expect.NO_ELEMENT, hall -> hall.checksNeeded(asked, 1));
            Edges other = of("harness " + (3 - size) + " 9");
            other.refused("44: none of the size", Expect.NO_ELEMENT,
                    hall -> hall.checksNeeded(asked, 365));
            Edges retired = of(Halls.many("harness " + size + " 9", 2))
                    .after(hall -> hall.check(0, false));
            retired.answers("44: one is left", 1, hall -> hall.checksNeeded(asked, 10));
            retired.after(hall -> hall.check(1, false)).refused("44: all are retired",
                    Expect.NO_ELEMENT, hall -> hall.checksNeeded(asked, 1));
        }
        EMPTY.refused("44: size before none", Expect.ARGUMENT, hall -> hall.checksNeeded(4, 1));
        EMPTY.refused("44: days before none", Expect.ARGUMENT, hall -> hall.checksNeeded(0, 0));
        EMPTY.refused("44: days before none", Expect.ARGUMENT, hall -> hall.checksNeeded(0, 366));
        EMPTY.refused("44: both", Expect.ARGUMENT, hall -> hall.checksNeeded(-1, 366));
    }

    private static void promise44OneDayMore() {
        for (int validity : new int[] {1, 2, 100, 364}) {
            Edges edges = of("harness 0 " + validity);
            edges.answers("44: in force on all days", 0, hall -> hall.checksNeeded(0, validity));
            edges.answers("44: one day more", 1, hall -> hall.checksNeeded(0, validity + 1));
            edges.daysLater(validity - 1).answers("44: in force today", 0,
                    hall -> hall.checksNeeded(0, 1));
            edges.daysLater(validity).answers("44: lapsed today", 1, hall -> hall.checksNeeded(0, 1));
            edges.daysLater(validity).answers("44: one check for its validity", 1,
                    hall -> hall.checksNeeded(0, validity));
            edges.daysLater(validity).answers("44: and the next one", 2,
                    hall -> hall.checksNeeded(0, validity + 1));
        }
        of("harness 0 365").answers("44: a year", 0, hall -> hall.checksNeeded(0, 365));
        of("harness 0 365").daysLater(1).answers("44: a day later", 1, hall -> hall.checksNeeded(0, 365));
        of("harness 0 1").answers("44: all days but today", 364, hall -> hall.checksNeeded(0, 365));
        of("harness 0 1").daysLater(1).answers("44: all days", 365, hall -> hall.checksNeeded(0, 365));
    }

    private static void promise44WhichIsChecked() {
        Edges edges = of("harness 0 3;harness 0 5;harness 1 9;harness 0 4;member 0 0");
        edges.answers("44: the longest is in force", 0, hall -> hall.checksNeeded(0, 5));
        edges.answers("44: it is checked", 1, hall -> hall.checksNeeded(0, 10));
        edges.answers("44: and again", 2, hall -> hall.checksNeeded(0, 11));
        Edges lent = edges.after(hall -> hall.lend(0, 1)).after(hall -> {
            hall.giveBack(0);
            hall.lend(0, 1);
        });
        lent.answers("44: also when it is lent", 1, hall -> hall.checksNeeded(0, 10));
        lent.answers("44: also when it is lent", 2, hall -> hall.checksNeeded(0, 11));
        Edges retired = edges.after(hall -> hall.check(1, false));
        retired.answers("44: the next one is in force", 0, hall -> hall.checksNeeded(0, 4));
        retired.answers("44: the next one is checked", 1, hall -> hall.checksNeeded(0, 8));
        retired.answers("44: the next one is checked", 2, hall -> hall.checksNeeded(0, 9));
        Edges later = edges.daysLater(3).after(hall -> hall.check(0, true));
        later.answers("44: the shortest, until day 5", 0, hall -> hall.checksNeeded(0, 3));
        later.answers("44: then the longest, until day 10", 1, hall -> hall.checksNeeded(0, 8));
        later.answers("44: and again", 2, hall -> hall.checksNeeded(0, 9));
        of("harness 0 5;harness 0 5").answers("44: two alike", 1, hall -> hall.checksNeeded(0, 10));
        of("harness 0 5;harness 0 5").answers("44: two alike", 2, hall -> hall.checksNeeded(0, 11));
    }

    // ---- Promise 45

    private static void promise45Numbers() {
        FULL.rows("45: member", 12, (hall, member) -> hall.allowedRoutes(member));
        EMPTY.refused("45: no members", Expect.OUTSIDE, hall -> hall.allowedRoutes(0));
        FRESH.answers("45: no routes", 0, hall -> hall.allowedRoutes(0));
        FRESH.after(hall -> hall.lend(0, 0)).answers("45: no routes", 0,
                hall -> hall.allowedRoutes(0));
        FULL.answers("45: all 24", 0xffffff, hall -> hall.allowedRoutes(0));
        FULL.answers("45: all 24", 0xffffff, hall -> hall.allowedRoutes(11));
        FULL.changesNothing("45: a question", hall -> hall.allowedRoutes(0));
    }

    private static void promise45EachReason() {
        FULL.after(hall -> hall.giveBack(0)).answers("45: no harness", 0,
                hall -> hall.allowedRoutes(0));
        FULL.after(hall -> hall.endDays(1)).answers("45: all walls are closed", 0,
                hall -> hall.allowedRoutes(0));
        Edges postponed = FULL.after(hall -> hall.endDays(1)).after(hall -> hall.postpone(4, 1));
        postponed.answers("45: one is open", 0b1111 << 20, hall -> hall.allowedRoutes(0));
        Edges lent = of("rules 0 1 2;wall 3 1 60;wall 3 2 60;harness 0 4;member 0 1").after(hall -> {
            hall.setRoute(0, 0);
            hall.setRoute(1, 0);
            hall.setRoute(0, 10);
            hall.lend(0, 0);
        });
        lent.answers("45: its level and below", 0b101, hall -> hall.allowedRoutes(0));
        lent.after(hall -> hall.climb(0, 0)).answers("45: wear 1 of 2", 0b101,
                hall -> hall.allowedRoutes(0));
        lent.after(hall -> hall.climb(0, 2)).answers("45: wear 2 of 2", 0b001,
                hall -> hall.allowedRoutes(0));
        lent.daysLater(3).answers("45: the last day in force", 0b101, hall -> hall.allowedRoutes(0));
        lent.daysLater(4).answers("45: the day of the lapse", 0, hall -> hall.allowedRoutes(0));
    }

    // ---- Promise 46

    private static Edges ladder() {
        return of("wall 3 0 60;harness 0 60;member 0 0;member 0 5;course 1 1 4;course 2 1 2;"
                + "course 2 1 0;course 3 1 200;course 3 1 199;course 4 1 9;course 5 1 0");
    }

    private static void promise46Numbers() {
        FULL.rows("46: member", 12, (hall, member) -> hall.ladder(member, 0));
        ladder().range("46: level", Expect.ARGUMENT, 0, 5, (hall, level) -> hall.ladder(0, level));
        ladder().range("46: level", Expect.ARGUMENT, 0, 5, (hall, level) -> hall.ladder(1, level));
        ladder().refused("46: member before level", Expect.OUTSIDE, hall -> hall.ladder(2, 6));
        ladder().refused("46: member before level", Expect.OUTSIDE, hall -> hall.ladder(-1, -1));
        EMPTY.refused("46: no members", Expect.OUTSIDE, hall -> hall.ladder(0, 0));
        of("member 0 0").refused("46: member before no course", Expect.OUTSIDE,
                hall -> hall.ladder(1, 1));
        of("member 0 0").refused("46: level before no course", Expect.ARGUMENT,
                hall -> hall.ladder(0, 6));
        FULL.changesNothing("46: a question", hall -> hall.ladder(0, 1));
    }

    private static void promise46Need() {
        int[] due = {0, 4, 4, 199, 199, 199};
        for (int level = 0; level <= 5; level++) {
            int asked = level;
            ladder().answers("46: to level " + level, due[level], hall -> hall.ladder(0, asked));
            ladder().answers("46: from the top", 0, hall -> hall.ladder(1, asked));
        }
        Edges climbed = ladder().after(hall -> {
            hall.setRoute(0, 0);
            hall.lend(0, 0);
            Halls.climb(hall, 0, 0, 3);
        });
        climbed.answers("46: one more", 1, hall -> hall.ladder(0, 1));
        climbed.answers("46: less its climbs", 196, hall -> hall.ladder(0, 5));
        Edges enough = climbed.after(hall -> hall.climb(0, 0));
        enough.answers("46: just enough", 0, hall -> hall.ladder(0, 1));
        enough.after(hall -> hall.climb(0, 0)).answers("46: at least 0", 0,
                hall -> hall.ladder(0, 1));
        enough.answers("46: the rest", 195, hall -> hall.ladder(0, 3));
        Edges risen = enough.after(hall -> hall.enroll(0, 0)).after(hall -> hall.finish(0, 1));
        risen.answers("46: its own level", 0, hall -> hall.ladder(0, 1));
        risen.answers("46: from level 1", 0, hall -> hall.ladder(0, 2));
        risen.answers("46: from level 1", 195, hall -> hall.ladder(0, 3));
    }

    /** The need is that of the courses, whoever is in them and whatever seats are left. */
    private static void promise46FullCourses() {
        Edges edges = of("member 0 0;member 0 0;member 0 1;course 1 1 0;course 1 2 7;course 2 1 0;"
                + "course 2 1 9");
        edges.answers("46: the least of both", 0, hall -> hall.ladder(1, 2));
        Edges taken = edges.after(hall -> hall.enroll(0, 0)).after(hall -> hall.enroll(2, 2));
        taken.refused("46: no seat", Expect.STATE, hall -> hall.enroll(1, 0));
        taken.answers("46: without a seat, too", 0, hall -> hall.ladder(1, 1));
        taken.answers("46: without a seat, too", 0, hall -> hall.ladder(1, 2));
        taken.answers("46: in the course", 0, hall -> hall.ladder(0, 2));
    }

    private static void promise46NoCourse() {
        String[] courses = {";course 1 1 1", ";course 2 1 2", ";course 3 1 3", ";course 4 1 4",
            ";course 5 1 5"};
        for (int missing = 1; missing <= 5; missing++) {
            for (int own = 0; own <= 5; own++) {
                StringBuilder text = new StringBuilder("member 0 " + own);
                for (int level = 1; level <= 5; level++) {
                    text.append(level == missing ? "" : courses[level - 1]);
                }
                Edges edges = of(text.toString());
                for (int to = 0; to <= 5; to++) {
                    int asked = to;
                    if (own < missing && missing <= to) {
                        edges.refused("46: no course of " + missing, Expect.NO_ELEMENT,
                                hall -> hall.ladder(0, asked));
                    } else {
                        edges.answers("46: from " + own + " to " + to, to > own ? to : 0,
                                hall -> hall.ladder(0, asked));
                    }
                }
            }
        }
        of("member 0 3").answers("46: no courses, but none is needed", 0, hall -> hall.ladder(0, 3));
        of("member 0 3").refused("46: no courses", Expect.NO_ELEMENT, hall -> hall.ladder(0, 4));
    }
}
