/** Promises 22 to 29: the numbers and parts of the hall, and the bill. */
public final class PartsTest {
    private static final Expect EXPECT = new Expect("PartsTest");

    public static void main(String[] args) {
        promise22Count();
        promise23Wall();
        promise24Route();
        promise25Archived();
        promise26Member();
        promise27Harness();
        promise28Course();
        promise29Bill();
        promise29NoInt();
        EXPECT.finish();
    }

    private static void expectParts(String what, int[] due, java.util.function.IntUnaryOperator part) {
        for (int i = 0; i < due.length; i++) {
            EXPECT.equal(what + " part " + i, part.applyAsInt(i), due[i]);
        }
        EXPECT.fails(what + " part -1", Expect.ARGUMENT, () -> part.applyAsInt(-1));
        EXPECT.fails(what + " part behind", Expect.ARGUMENT, () -> part.applyAsInt(due.length));
        EXPECT.fails(what + " least part", Expect.ARGUMENT, () -> part.applyAsInt(Integer.MIN_VALUE));
    }

    /** The number of the thing is looked at before that of the part. */
    private static void expectRows(String what, int rows, java.util.function.IntBinaryOperator part) {
        EXPECT.fails(what + " -1", Expect.OUTSIDE, () -> part.applyAsInt(-1, 0));
        EXPECT.fails(what + " " + rows, Expect.OUTSIDE, () -> part.applyAsInt(rows, 0));
        EXPECT.fails(what + " first", Expect.OUTSIDE, () -> part.applyAsInt(rows, 99));
        EXPECT.fails(what + " greatest", Expect.OUTSIDE,
                () -> part.applyAsInt(Integer.MAX_VALUE, -1));
        EXPECT.fails(what + " least", Expect.OUTSIDE, () -> part.applyAsInt(Integer.MIN_VALUE, 0));
    }

    /** Two walls, four routes, one of them archived, on day 3. */
    private static ClimbingHall busy() {
        ClimbingHall hall = Halls.of("rules 10 1 3;wall 10 2 4;wall 20 1 3;harness 3 9;"
                + "harness 2 200;harness 0 2;member 3 2;member 2 4;course 3 2 0;course 4 5 150;"
                + "course 3 4 1");
        hall.endDays(1);
        hall.setRoute(0, 9);
        hall.setRoute(0, 8);
        hall.setRoute(1, 7);
        hall.setRoute(1, 6);
        hall.lend(0, 0);
        hall.lend(1, 1);
        hall.climb(0, 1);
        hall.climb(1, 1);
        hall.climb(1, 1);
        hall.climb(1, 3);
        hall.vote(0, 1, 5);
        hall.vote(1, 1, 8);
        hall.enroll(0, 2);
        hall.endDays(2);
        hall.removeRoute(2);
        return hall;
    }

    private static void promise22Count() {
        ClimbingHall hall = busy();
        expectParts("22: count", new int[] {2, 3, 3, 2, 3, 1, 3, 10, 1, 3}, hall::count);
    }

    private static void promise23Wall() {
        ClimbingHall hall = busy();
        expectParts("23: wall 0", new int[] {10, 2, 4, 4, 2, 0}, what -> hall.wall(0, what));
        expectParts("23: wall 1", new int[] {20, 1, 3, 3, 1, 1}, what -> hall.wall(1, what));
        expectRows("23: wall", 2, hall::wall);
        hall.endDays(1);
        expectParts("23: wall 0", new int[] {10, 2, 4, 4, 2, 1}, what -> hall.wall(0, what));
        expectParts("23: wall 1", new int[] {20, 1, 3, 6, 0, 0}, what -> hall.wall(1, what));
    }

    private static void promise24Route() {
        ClimbingHall hall = busy();
        expectParts("24: route 0", new int[] {0, 9, 1, 0, 0, 0, 0}, what -> hall.route(0, what));
        expectParts("24: route 1", new int[] {0, 8, 1, 3, 3, 2, 1}, what -> hall.route(1, what));
        expectParts("24: route 2", new int[] {1, 6, 1, 1, 1, 0, 0}, what -> hall.route(2, what));
        expectRows("24: route", 3, hall::route);
    }

    private static void promise25Archived() {
        ClimbingHall hall = busy();
        expectParts("25: archived 0", new int[] {1, 7, 3, 0}, what -> hall.archived(0, what));
        expectRows("25: archived", 1, hall::archived);
        hall.removeRoute(1);
        expectParts("25: archived 0", new int[] {1, 7, 3, 0}, what -> hall.archived(0, what));
        expectParts("25: archived 1", new int[] {0, 7, 3, 3}, what -> hall.archived(1, what));
        expectRows("25: archived", 2, hall::archived);
    }

    private static void promise26Member() {
        ClimbingHall hall = busy();
        expectParts("26: member 0", new int[] {3, 2, 1, 0, 2, 2}, what -> hall.member(0, what));
        expectParts("26: member 1", new int[] {2, 4, 3, 1, -1, 2}, what -> hall.member(1, what));
        expectRows("26: member", 2, hall::member);
        hall.giveBack(0);
        EXPECT.equal("26: no harness", hall.member(0, 3), -1);
    }

    private static void promise27Harness() {
        ClimbingHall hall = busy();
        hall.check(2, true);
        expectParts("27: lent", new int[] {3, 9, 0, 9, 1, 1}, what -> hall.harness(0, what));
        expectParts("27: free", new int[] {0, 2, 3, 5, 0, 1}, what -> hall.harness(2, what));
        expectRows("27: harness", 3, hall::harness);
        hall.endDays(1);
        EXPECT.equal("27: the last day in force", hall.harness(2, 5), 1);
        hall.endDays(1);
        EXPECT.equal("27: lapsed", hall.harness(2, 5), 0);
        hall.check(2, false);
        expectParts("27: retired", new int[] {0, 2, 5, 7, 2, 0}, what -> hall.harness(2, what));
        hall.endDays(4);
        expectParts("27: lent, lapsed", new int[] {3, 9, 0, 9, 1, 0}, what -> hall.harness(0, what));
    }

    private static void promise28Course() {
        ClimbingHall hall = busy();
        expectParts("28: course 0", new int[] {3, 2, 0, 0}, what -> hall.course(0, what));
        expectParts("28: course 1", new int[] {4, 5, 150, 0}, what -> hall.course(1, what));
        expectParts("28: course 2", new int[] {3, 4, 1, 1}, what -> hall.course(2, what));
        expectRows("28: course", 3, hall::course);
    }

    private static void promise29Bill() {
        ClimbingHall hall = busy();
        EXPECT.equal("29: climbs and nights", hall.bill(1, 100, 7), 314);
        EXPECT.equal("29: of the other", hall.bill(0, 100, 7), 114);
        EXPECT.equal("29: prices below 0", hall.bill(1, -5, 3), -9);
        EXPECT.equal("29: no prices", hall.bill(1, 0, 0), 0);
        EXPECT.fails("29: member -1", Expect.OUTSIDE, () -> hall.bill(-1, 1, 1));
        EXPECT.fails("29: member first", Expect.OUTSIDE,
                () -> hall.bill(2, Integer.MAX_VALUE, Integer.MAX_VALUE));
        ClimbingHall fresh = new ClimbingHall();
        EXPECT.equal("29: nothing owed", fresh.bill(0, Integer.MIN_VALUE, Integer.MAX_VALUE), 0);
    }

    private static void promise29NoInt() {
        ClimbingHall hall = busy();
        int most = Integer.MAX_VALUE;
        int least = Integer.MIN_VALUE;
        EXPECT.fails("29: first product", Expect.ARITHMETIC, () -> hall.bill(1, most, least / 2));
        EXPECT.fails("29: first product, though the sum is an int", Expect.ARITHMETIC,
                () -> hall.bill(1, 1_000_000_000, -1_000_000_000));
        EXPECT.fails("29: second product, though the sum is an int", Expect.ARITHMETIC,
                () -> hall.bill(1, -500_000_000, 1_500_000_000));
        EXPECT.fails("29: second product", Expect.ARITHMETIC, () -> hall.bill(0, least, most));
        EXPECT.fails("29: least product", Expect.ARITHMETIC, () -> hall.bill(1, least, 0));
        EXPECT.fails("29: the sum", Expect.ARITHMETIC, () -> hall.bill(0, most, 1));
        EXPECT.fails("29: the least sum", Expect.ARITHMETIC, () -> hall.bill(0, least, -1));
        EXPECT.equal("29: just an int", hall.bill(0, most - 2, 1), most);
        EXPECT.equal("29: just an int", hall.bill(0, least, 0), least);
        EXPECT.equal("29: just an int", hall.bill(0, least, most / 2), -2);
    }
}
