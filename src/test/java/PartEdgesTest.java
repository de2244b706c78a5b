import java.util.function.ObjIntConsumer;

/** The edges of promises 22 to 29: the numbers and parts of an empty and of a full hall, the bill. */
public final class PartEdgesTest {
    private static final Expect EXPECT = new Expect("PartEdgesTest");
    private static final Edges FRESH = new Edges(EXPECT, ClimbingHall::new);
    private static final Edges FULL = new Edges(EXPECT, Halls::full);
    private static final Edges EMPTY = new Edges(EXPECT, () -> Halls.of("rules 20 2 50"));

    public static void main(String[] args) {
        promise22Count();
        promise23Wall();
        promise23ClosedToday();
        promise24Route();
        promise24Worn();
        promise25Archived();
        promise26Member();
        promise27Harness();
        promise27InForce();
        promise27Retired();
        promise28Course();
        promise29Numbers();
        promise29Products();
        promise29Sums();
        EXPECT.finish();
    }

    /** A part of a thing: the numbers of both, and which of them is looked at first. */
    private interface Part {
        int of(ClimbingHall hall, int number, int what);
    }

    private static void expectParts(String what, int rows, int parts, Part part) {
        FULL.rows(what, rows, (hall, number) -> part.of(hall, number, 0));
        FULL.rows(what + ", last part", rows, (hall, number) -> part.of(hall, number, parts - 1));
        FULL.range(what + ", part", Expect.ARGUMENT, 0, parts - 1,
                (hall, asked) -> part.of(hall, 0, asked));
        FULL.range(what + ", part of the last", Expect.ARGUMENT, 0, parts - 1,
                (hall, asked) -> part.of(hall, rows - 1, asked));
        FULL.refused(what + ", number first", Expect.OUTSIDE, hall -> part.of(hall, rows, parts));
        FULL.refused(what + ", number first", Expect.OUTSIDE, hall -> part.of(hall, -1, -1));
        EMPTY.refused(what + ", there is none", Expect.OUTSIDE, hall -> part.of(hall, 0, 0));
        EMPTY.refused(what + ", there is none", Expect.OUTSIDE, hall -> part.of(hall, 0, parts));
        for (int asked = 0; asked < parts; asked++) {
            int one = asked;
            FULL.changesNothing(what + ", asked", hall -> part.of(hall, rows - 1, one));
        }
    }

    private static void expectAnswers(String what, Edges edges, int number, Part part, int... due) {
        for (int asked = 0; asked < due.length; asked++) {
            int one = asked;
            edges.answers(what + ", part " + one, due[one], hall -> part.of(hall, number, one));
        }
    }

    private static void promise22Count() {
        ObjIntConsumer<ClimbingHall> count = (hall, what) -> hall.count(what);
        FULL.range("22: what", Expect.ARGUMENT, 0, 9, count);
        EMPTY.range("22: what", Expect.ARGUMENT, 0, 9, count);
        Part counted = (hall, number, what) -> hall.count(what);
        expectAnswers("22: full", FULL, 0, counted, 8, 24, 15, 12, 8, 30, 3, 10, 1, 200);
        expectAnswers("22: empty", EMPTY, 0, counted, 0, 0, 0, 0, 0, 0, 0, 20, 2, 50);
        for (int asked = 0; asked < 10; asked++) {
            int one = asked;
            FULL.changesNothing("22: asked", hall -> hall.count(one));
        }
    }

    private static void promise23Wall() {
        expectParts("23: wall", 8, 6, ClimbingHall::wall);
        expectAnswers("23: five routes", FULL, 0, ClimbingHall::wall, 3, 0, 2, 4, 5, 0);
        expectAnswers("23: four routes", FULL, 4, ClimbingHall::wall, 3, 0, 2, 4, 4, 0);
        expectAnswers("23: no routes", FULL, 7, ClimbingHall::wall, 3, 0, 2, 4, 0, 0);
    }

    private static void promise23ClosedToday() {
        int[] closed = {0, 0, 0, 0, 0, 0, 0, 1, 0, 0, 0, 0, 0, 0, 1, 0};
        for (int day = 0; day < closed.length; day++) {
            ClimbingHall hall = new ClimbingHall();
            for (int ended = 0; ended < day; ended++) {
                hall.endDays(1);
            }
            EXPECT.equal("23: closed on day " + day, hall.wall(0, 5), closed[day]);
            int next = day <= 7 ? 7 : day <= 14 ? 14 : 21;
            EXPECT.equal("23: next reset on day " + day, hall.wall(0, 3), next);
        }
    }

    private static void promise24Route() {
        expectParts("24: route", 24, 7, ClimbingHall::route);
        expectAnswers("24: the first", FULL, 0, ClimbingHall::route, 0, 0, 3, 0, 0, 0, 0);
        // By the votes its grade is 23 at the first climb, then 12, eight times 7 to 9, 10 and 11.
        expectAnswers("24: the last", FULL, 23, ClimbingHall::route, 4, 23, 3, 17, 12, 12, 0);
        FULL.after(hall -> hall.vote(11, 23, 0)).answers("24: one vote each", 12,
                hall -> hall.route(23, 5));
        FULL.after(hall -> hall.climb(11, 23)).answers("24: thirteen climbs", 13,
                hall -> hall.route(23, 4));
        FULL.after(hall -> hall.climb(11, 0)).answers("24: climbed without a vote", 0,
                hall -> hall.route(0, 5));
        FRESH.refused("24: no routes", Expect.OUTSIDE, hall -> hall.route(0, 0));
    }

    private static void promise24Worn() {
        for (int wear : new int[] {1, 2, 3, 4}) {
            Edges edges = new Edges(EXPECT, () -> {
                ClimbingHall hall = Halls.of("rules 0 1 " + wear
                        + ";wall 3 0 60;harness 0 60;member 0 0");
                hall.setRoute(0, 10);
                hall.lend(0, 0);
                return hall;
            });
            edges.answers("24: not worn at first", 0, hall -> hall.route(0, 6));
            Edges once = edges.after(hall -> hall.climb(0, 0));
            once.answers("24: wear 2 of " + wear, wear <= 2 ? 1 : 0, hall -> hall.route(0, 6));
            if (wear > 2) {
                once.after(hall -> hall.climb(0, 0)).answers("24: wear 4 of " + wear, 1,
                        hall -> hall.route(0, 6));
            }
        }
    }

    private static void promise25Archived() {
        expectParts("25: archived", 30, 4, ClimbingHall::archived);
        expectAnswers("25: the oldest", FULL, 0, ClimbingHall::archived, 0, 0, 2, 0);
        expectAnswers("25: the last of the reset", FULL, 23, ClimbingHall::archived, 4, 23, 2, 0);
        expectAnswers("25: the first removed", FULL, 24, ClimbingHall::archived, 3, 18, 3, 0);
        expectAnswers("25: the latest", FULL, 29, ClimbingHall::archived, 4, 23, 3, 0);
        FRESH.refused("25: an empty archive", Expect.OUTSIDE, hall -> hall.archived(0, 0));
        Edges one = FRESH.after(hall -> hall.setRoute(0, 29)).after(hall -> hall.removeRoute(0));
        one.rows("25: the only one", 1, (hall, index) -> hall.archived(index, 0));
        one.after(hall -> hall.undo()).refused("25: undone", Expect.OUTSIDE,
                hall -> hall.archived(0, 0));
    }

    private static void promise26Member() {
        expectParts("26: member", 12, 6, ClimbingHall::member);
        expectAnswers("26: the first", FULL, 0, ClimbingHall::member, 0, 0, 1, 0, 0, 0);
        expectAnswers("26: the last", FULL, 11, ClimbingHall::member, 0, 4, 1, 11, 7, 0);
        expectAnswers("26: at first", FRESH, 1, ClimbingHall::member, 1, 1, 0, -1, -1, 0);
        Edges without = FULL.after(hall -> hall.giveBack(0)).after(hall -> hall.leaveCourse(0));
        expectAnswers("26: without both", without, 0, ClimbingHall::member, 0, 0, 1, -1, -1, 0);
        expectAnswers("26: days later", FULL.after(hall -> hall.endDays(60)), 11,
                ClimbingHall::member, 0, 4, 1, 11, 7, 60);
    }

    private static void promise27Harness() {
        expectParts("27: harness", 15, 6, ClimbingHall::harness);
        expectAnswers("27: lent", FULL, 11, ClimbingHall::harness, 0, 90, 0, 90, 1, 1);
        expectAnswers("27: free", FULL, 12, ClimbingHall::harness, 0, 365, 0, 365, 0, 1);
        expectAnswers("27: free, lapsed", FULL, 13, ClimbingHall::harness, 0, 1, 0, 1, 0, 0);
        Edges later = FULL.after(hall -> hall.endDays(60)).after(hall -> hall.endDays(27));
        expectAnswers("27: lent, lapsed", later, 11, ClimbingHall::harness, 0, 90, 0, 90, 1, 0);
        Edges checked = FULL.after(hall -> hall.check(13, true));
        expectAnswers("27: checked", checked, 13, ClimbingHall::harness, 0, 1, 3, 4, 0, 1);
    }

    private static void promise27InForce() {
        for (int validity = 1; validity <= 4; validity++) {
            String text = "harness 0 " + validity;
            for (int day = 1; day <= 6; day++) {
                int ended = day;
                Edges edges = new Edges(EXPECT, () -> Halls.of(text))
                        .after(hall -> hall.endDays(ended));
                edges.answers("27: " + validity + " days, day " + day, day < validity ? 1 : 0,
                        hall -> hall.harness(0, 5));
            }
            new Edges(EXPECT, () -> Halls.of(text)).answers("27: day 0", 1,
                    hall -> hall.harness(0, 5));
        }
    }

    /** The check that retires a harness is its latest one; it lapses as any check does. */
    private static void promise27Retired() {
        expectAnswers("27: retired", FULL, 14, ClimbingHall::harness, 0, 9, 3, 12, 2, 0);
        Edges lapsed = FULL.after(hall -> hall.check(13, false));
        expectAnswers("27: lapsed, then retired", lapsed, 13, ClimbingHall::harness, 0, 1, 3, 4, 2, 0);
        Edges atOnce = FRESH.after(hall -> hall.check(0, false));
        expectAnswers("27: retired on day 0", atOnce, 0, ClimbingHall::harness, 1, 30, 0, 30, 2, 0);
        expectAnswers("27: the other one", atOnce, 1, ClimbingHall::harness, 1, 60, 0, 60, 0, 1);
    }

    private static void promise28Course() {
        expectParts("28: course", 8, 4, ClimbingHall::course);
        expectAnswers("28: one member", FULL, 5, ClimbingHall::course, 1, 12, 0, 0b100000);
        expectAnswers("28: nobody", FULL, 6, ClimbingHall::course, 1, 12, 0, 0);
        expectAnswers("28: all seats", FULL, 7, ClimbingHall::course, 5, 6, 0, 0b111111000000);
        FULL.after(hall -> hall.leaveCourse(11)).answers("28: one left", 0b011111000000,
                hall -> hall.course(7, 3));
    }

    // ---- Promise 29

    private static final int MOST = Integer.MAX_VALUE;
    private static final int LEAST = Integer.MIN_VALUE;

    /** Members with 0 climbs and nights, 1 and 2, 2 and 1, and 1 and 0. */
    private static Edges owing() {
        return new Edges(EXPECT, () -> {
            ClimbingHall hall = Halls.of("wall 3 0 60;" + Halls.many("harness 0 60", 3) + ";"
                    + Halls.many("member 0 0", 4));
            hall.setRoute(0, 0);
            hall.lend(1, 1);
            hall.lend(2, 2);
            hall.lend(3, 0);
            hall.climb(1, 0);
            Halls.climb(hall, 2, 0, 2);
            hall.climb(3, 0);
            hall.giveBack(3);
            hall.endDays(1);
            hall.giveBack(2);
            hall.endDays(1);
            return hall;
        });
    }

    private static void promise29Numbers() {
        FULL.rows("29: member", 12, (hall, member) -> hall.bill(member, 1, 1));
        FULL.refused("29: member before the product", Expect.OUTSIDE, hall -> hall.bill(12, MOST, MOST));
        EMPTY.refused("29: no members", Expect.OUTSIDE, hall -> hall.bill(0, 0, 0));
        Edges owing = owing();
        for (int price : new int[] {LEAST, -1, 0, 1, MOST}) {
            for (int other : new int[] {LEAST, -1, 0, 1, MOST}) {
                owing.answers("29: owes nothing", 0, hall -> hall.bill(0, price, other));
                owing.answers("29: one climb", price, hall -> hall.bill(3, price, other));
            }
        }
        owing.changesNothing("29: a bill", hall -> hall.bill(1, 5, 7));
    }

    private static void promise29Products() {
        Edges owing = owing();
        owing.answers("29: greatest first product", MOST - 1, hall -> hall.bill(2, MOST / 2, 0));
        owing.refused("29: greater", Expect.ARITHMETIC, hall -> hall.bill(2, MOST / 2 + 1, 0));
        owing.answers("29: least first product", LEAST, hall -> hall.bill(2, LEAST / 2, 0));
        owing.refused("29: less", Expect.ARITHMETIC, hall -> hall.bill(2, LEAST / 2 - 1, 0));
        owing.answers("29: greatest second product", MOST - 1, hall -> hall.bill(1, 0, MOST / 2));
        owing.refused("29: greater", Expect.ARITHMETIC, hall -> hall.bill(1, 0, MOST / 2 + 1));
        owing.answers("29: least second product", LEAST, hall -> hall.bill(1, 0, LEAST / 2));
        owing.refused("29: less", Expect.ARITHMETIC, hall -> hall.bill(1, 0, LEAST / 2 - 1));
        owing.refused("29: first product, though the sum is an int", Expect.ARITHMETIC,
                hall -> hall.bill(2, MOST / 2 + 1, -1));
        owing.refused("29: second product, though the sum is an int", Expect.ARITHMETIC,
                hall -> hall.bill(1, -1, MOST / 2 + 1));
        owing.refused("29: first product, though the sum is an int", Expect.ARITHMETIC,
                hall -> hall.bill(2, LEAST / 2 - 1, MOST));
        owing.refused("29: second product, though the sum is an int", Expect.ARITHMETIC,
                hall -> hall.bill(1, MOST, LEAST / 2 - 1));
        owing.refused("29: wraps round to 0", Expect.ARITHMETIC, hall -> hall.bill(2, LEAST, 0));
    }

    private static void promise29Sums() {
        Edges owing = owing();
        owing.answers("29: greatest sum", MOST, hall -> hall.bill(2, MOST / 2, 1));
        owing.refused("29: greater", Expect.ARITHMETIC, hall -> hall.bill(2, MOST / 2, 2));
        owing.answers("29: least sum", LEAST, hall -> hall.bill(2, LEAST / 2 + 1, -2));
        owing.refused("29: less", Expect.ARITHMETIC, hall -> hall.bill(2, LEAST / 2 + 1, -3));
        owing.answers("29: greatest and least", -1, hall -> hall.bill(1, MOST, LEAST / 2));
        owing.refused("29: both greatest", Expect.ARITHMETIC, hall -> hall.bill(2, MOST / 2, MOST));
        owing.refused("29: both least", Expect.ARITHMETIC, hall -> hall.bill(2, LEAST / 2, LEAST));
    }
}
