/** Promises 1 to 5: a new object, the input buffer and the setup text (section 7). */
public final class SetupTest {
    private static final Expect EXPECT = new Expect("SetupTest");

    public static void main(String[] args) {
        promise1NewObject();
        promise2Append();
        promise2Full();
        promise3Truncate();
        promise4Valid();
        promise4Tokens();
        promise4Ranges();
        promise4Order();
        promise4TooMany();
        promise5Load();
        promise5Invalid();
        EXPECT.finish();
    }

    private static void promise1NewObject() {
        ClimbingHall hall = new ClimbingHall();
        EXPECT.equal("NONE", ClimbingHall.NONE, -1);
        EXPECT.equal("1: length of the buffer", hall.append(0, 0, 0, 0, 0), 0);
        ClimbingHall same = Halls.of("wall 12 0 7;wall 15 1 10;harness 1 30;harness 1 60;"
                + "member 1 0;member 1 1;course 1 4 5");
        if (!Halls.picture(hall).equals(Halls.picture(same))) {
            EXPECT.report("1: a new hall is not that of its text");
        }
        int[] counts = {2, 0, 2, 2, 1, 0, 0, 20, 2, 50};
        for (int what = 0; what < counts.length; what++) {
            EXPECT.equal("1: count " + what, hall.count(what), counts[what]);
        }
        expectParts("1: wall 0", new int[] {12, 0, 7, 7}, what -> hall.wall(0, what));
        expectParts("1: wall 1", new int[] {15, 1, 10, 10}, what -> hall.wall(1, what));
        expectParts("1: harness 0", new int[] {1, 30, 0, 30, 0, 1}, what -> hall.harness(0, what));
        expectParts("1: harness 1", new int[] {1, 60, 0, 60, 0, 1}, what -> hall.harness(1, what));
        expectParts("1: member 0", new int[] {1, 0, 0, -1, -1, 0}, what -> hall.member(0, what));
        expectParts("1: member 1", new int[] {1, 1, 0, -1, -1, 0}, what -> hall.member(1, what));
        expectParts("1: course 0", new int[] {1, 4, 5, 0}, what -> hall.course(0, what));
        EXPECT.equal("1: undoCount", hall.undoCount(), 0);
        EXPECT.fails("1: restore", Expect.STATE, () -> hall.restore());
    }

    private static void expectParts(String what, int[] due, java.util.function.IntUnaryOperator part) {
        for (int i = 0; i < due.length; i++) {
            EXPECT.equal(what + " part " + i, part.applyAsInt(i), due[i]);
        }
    }

    private static void promise2Append() {
        ClimbingHall hall = new ClimbingHall();
        EXPECT.equal("2: zeros are skipped", hall.append(0x77006100, 0, 0x00006c00, 0, 0x6c), 4);
        EXPECT.equal("2: they were a word", hall.append(0x20332030, 0x20360000, 0, 0, 0), 10);
        EXPECT.equal("2: the text is valid", hall.errorPosition(), -1);
        EXPECT.equal("2: twenty bytes", hall.append(-1, -1, -1, -1, -1), 30);
        EXPECT.equal("2: great bytes count", hall.errorPosition(), 10);
        ClimbingHall order = new ClimbingHall();
        Halls.put(order, "member 2 5;wall 3 0 ");
        Halls.put(order, "60;wall 30 5 1");
        EXPECT.equal("2: all parts in order", order.load(), 2);
        EXPECT.equal("2: period", order.wall(0, 2), 60);
        EXPECT.equal("2: size", order.member(0, 0), 2);
    }

    private static void promise2Full() {
        ClimbingHall hall = new ClimbingHall();
        for (int i = 0; i < 29; i++) {
            hall.append(0x20202020, 0x20202020, 0x20202020, 0x20202020, 0x20202020);
        }
        EXPECT.equal("2: 581", hall.append(0x20000000, 0, 0, 0, 0), 581);
        EXPECT.fails("2: 601", Expect.STATE, () -> hall.append(
                0x20202020, 0x20202020, 0x20202020, 0x20202020, 0x20202020));
        EXPECT.equal("2: nothing was appended", hall.append(0, 0, 0, 0, 0), 581);
        EXPECT.equal("2: zeros do not count", hall.append(
                0x20202020, 0x20202020, 0x20202020, 0x20202020, 0x00202020), 600);
        EXPECT.fails("2: one more", Expect.STATE, () -> hall.append(0, 0, 0, 0, 1));
        EXPECT.equal("2: still full", hall.append(0, 0, 0, 0, 0), 600);
        EXPECT.equal("2: a full buffer of spaces", hall.errorPosition(), 600);
        hall.truncate(590);
        Halls.put(hall, "wall 3 0 1");
        EXPECT.equal("2: a full buffer is read to its end", hall.errorPosition(), -1);
    }

    private static void promise3Truncate() {
        ClimbingHall hall = new ClimbingHall();
        EXPECT.equal("3: empty", hall.truncate(0), 0);
        EXPECT.fails("3: behind an empty one", Expect.ARGUMENT, () -> hall.truncate(1));
        Halls.put(hall, "wall 3 0 1;wall 3 0 1;x");
        EXPECT.fails("3: negative", Expect.ARGUMENT, () -> hall.truncate(-1));
        EXPECT.fails("3: least int", Expect.ARGUMENT, () -> hall.truncate(Integer.MIN_VALUE));
        EXPECT.fails("3: too great", Expect.ARGUMENT, () -> hall.truncate(24));
        EXPECT.equal("3: the present length", hall.truncate(23), 23);
        EXPECT.equal("3: nothing is lost so far", hall.errorPosition(), 22);
        EXPECT.equal("3: shorter", hall.truncate(21), 21);
        EXPECT.fails("3: not longer again", Expect.ARGUMENT, () -> hall.truncate(22));
        EXPECT.equal("3: the rest stands", hall.errorPosition(), -1);
        EXPECT.equal("3: append goes on from there", hall.append(';' << 24, 0, 0, 0, 0), 22);
        EXPECT.equal("3: an end too early", hall.errorPosition(), 22);
        hall.truncate(0);
        Halls.put(hall, "member 1 0");
        hall.truncate(9);
        EXPECT.equal("3: what was cut off is not read", hall.errorPosition(), 9);
    }

    private static void expectError(String text, int due) {
        EXPECT.equal("4: error in '" + text + "'", Halls.errorIn(text), due);
    }

    private static void promise4Valid() {
        expectError("rules 20 2 50", -1);
        expectError("member 0 0", -1);
        expectError("  wall  12 0   7  ;  member 3 5  ", -1);
        expectError("wall12 0 7;harness1 30;course5 12 200", -1);
        expectError("wall 012 000 007", -1);
        expectError("course 1 1 0;rules 0 0 1;wall 3 0 1", -1);
    }

    private static void promise4Tokens() {
        expectError("", 0);
        expectError("   ", 3);
        expectError(";", 0);
        expectError("wall 12 0 7;", 12);
        expectError("wall 12 0 7 ;  ", 15);
        expectError("wall 12 0 7;;wall 12 0 7", 12);
        expectError("wall", 4);
        expectError("wall 12 ", 8);
        expectError("wall 12 0;", 9);
        expectError("wal 12 0 7", 0);
        expectError("wallx 12 0 7", 0);
        expectError("wallz 12 0 7", 0);
        expectError("xall 12 0 7", 0);
        expectError("wall` 12 0 7", 4);
        expectError("wall{ 12 0 7", 4);
        expectError("wall /12 0 7", 5);
        expectError("wall 12: 0 7", 7);
        expectError(" Wall 12 0 7", 1);
        expectError("wall 12 0 7 7", 12);
        expectError("wall 12 0 7wall 3 0 1", 11);
        expectError("wall 12 0 7;12", 12);
        expectError("wall 12, 0 7", 7);
        expectError("wall -12 0 7", 5);
        expectError("wall 0012 0 7", 5);
        expectError("wall 12 0 0007", 10);
        expectError("wall 12 0 7\n", 11);
        expectError("wall\t12 0 7", 4);
        expectError("wall 12 0 7;\u00e9", 12);
        expectError("wall 1 2 0 7", 5);
        expectError("wall 12 x 7", 8);
        expectError("wall wall", 5);
        expectError("member 1 1 1", 11);
        expectError("harness 1 1 1", 12);
    }

    private static void promise4Ranges() {
        expectRange("rules ", 0, 40, " 2 50");
        expectRange("rules 20 ", 0, 10, " 50");
        expectRange("rules 20 2 ", 1, 200, "");
        expectRange("wall ", 3, 30, " 0 7");
        expectRange("wall 12 ", 0, 5, " 7");
        expectRange("wall 12 0 ", 1, 60, "");
        expectRange("harness ", 0, 3, " 30");
        expectRange("harness 1 ", 1, 365, "");
        expectRange("member ", 0, 3, " 0");
        expectRange("member 1 ", 0, 5, "");
        expectRange("course ", 1, 5, " 4 5");
        expectRange("course 1 ", 1, 12, " 5");
        expectRange("course 1 4 ", 0, 200, "");
    }

    private static void expectRange(String before, int least, int greatest, String behind) {
        for (int value = 0; value <= 999; value++) {
            boolean inside = value >= least && value <= greatest;
            int due = inside ? -1 : before.length();
            int got = Halls.errorIn(before + value + behind);
            if (got != due) {
                EXPECT.report("4: '" + before + value + behind + "' answered " + got);
            }
        }
    }

    private static void promise4Order() {
        expectError("wall 2 0 7;wal", 5);
        expectError("wall 12 0 7;rules 1 1 1;rules", 24);
        expectError("rules 0 0 1;rules 0 0 x", 12);
        expectError("rules 0 11 0", 8);
        ClimbingHall hall = new ClimbingHall();
        Halls.put(hall, "wall 12 0");
        EXPECT.equal("4: too short", hall.errorPosition(), 9);
        EXPECT.equal("4: asked again", hall.errorPosition(), 9);
        Halls.put(hall, " 7");
        EXPECT.equal("4: whole now", hall.errorPosition(), -1);
        EXPECT.equal("4: a check changes nothing", hall.count(0), 2);
    }

    private static void promise4TooMany() {
        expectMost("rules 0 0 1", 1);
        expectMost("wall 3 0 1", 8);
        expectMost("harness 0 1", 15);
        expectMost("member 0 0", 12);
        expectMost("course 1 1 0", 8);
        String all = Halls.many("wall 3 0 1", 8) + ";" + Halls.many("harness 0 1", 15) + ";"
                + Halls.many("member 0 0", 12) + ";" + Halls.many("course 1 1 0", 8) + ";rules 0 0 1";
        expectError(all, -1);
        ClimbingHall hall = Halls.of(all);
        EXPECT.equal("4: walls", hall.count(0), 8);
        EXPECT.equal("4: harnesses", hall.count(2), 15);
        EXPECT.equal("4: members", hall.count(3), 12);
        EXPECT.equal("4: courses", hall.count(4), 8);
    }

    private static void expectMost(String statement, int most) {
        String full = Halls.many(statement, most);
        expectError(full, -1);
        expectError(full + "; " + statement, full.length() + 2);
    }

    private static void promise5Load() {
        ClimbingHall hall = new ClimbingHall();
        hall.setRoute(0, 3);
        hall.removeRoute(0);
        hall.setRoute(0, 4);
        hall.endDays(3);
        hall.save();
        Halls.put(hall, "rules 7 3 9;wall 3 5 1;harness 3 365;member 2 4;course 5 12 200;wall 4 0 2;"
                + "wall 5 0 3");
        EXPECT.equal("5: number of walls", hall.load(), 3);
        int[] counts = {3, 0, 1, 1, 1, 0, 0, 7, 3, 9};
        for (int what = 0; what < counts.length; what++) {
            EXPECT.equal("5: count " + what, hall.count(what), counts[what]);
        }
        expectParts("5: wall 0", new int[] {3, 5, 1, 1, 0, 0}, what -> hall.wall(0, what));
        expectParts("5: wall 2", new int[] {5, 0, 3, 3, 0, 0}, what -> hall.wall(2, what));
        expectParts("5: harness", new int[] {3, 365, 0, 365, 0, 1}, what -> hall.harness(0, what));
        expectParts("5: member", new int[] {2, 4, 0, -1, -1, 0}, what -> hall.member(0, what));
        expectParts("5: course", new int[] {5, 12, 200, 0}, what -> hall.course(0, what));
        EXPECT.equal("5: the buffer is empty", hall.append(0, 0, 0, 0, 0), 0);
        EXPECT.equal("5: no undo history", hall.undoCount(), 0);
        EXPECT.fails("5: nothing to undo", Expect.STATE, () -> hall.undo());
        EXPECT.fails("5: no saved copy", Expect.STATE, () -> hall.restore());
        Halls.put(hall, "member 1 1");
        hall.errorPosition();
        EXPECT.equal("5: no walls", hall.load(), 0);
        int[] alone = {0, 0, 0, 1, 0, 0};
        for (int what = 0; what < alone.length; what++) {
            EXPECT.equal("5: a member alone, count " + what, hall.count(what), alone[what]);
        }
        EXPECT.equal("5: usual TRIM", hall.count(7), 20);
        EXPECT.equal("5: usual SETTER", hall.count(8), 2);
        EXPECT.equal("5: usual WEAR", hall.count(9), 50);
    }

    private static void promise5Invalid() {
        ClimbingHall hall = new ClimbingHall();
        EXPECT.fails("5: empty", Expect.ARGUMENT, () -> hall.load());
        hall.setRoute(0, 3);
        hall.save();
        Halls.put(hall, "rules 1 1 1;wall 3 0 1;wall 31 0 1");
        String before = Halls.picture(hall);
        EXPECT.fails("5: invalid", Expect.ARGUMENT, () -> hall.load());
        EXPECT.equal("5: the buffer is kept", hall.append(0, 0, 0, 0, 0), 34);
        EXPECT.equal("5: the history is kept", hall.undoCount(), 1);
        if (!Halls.picture(hall).equals(before)) {
            EXPECT.report("5: a load that failed changed the hall");
        }
        EXPECT.equal("5: the copy is kept", hall.restore(), 0);
        hall.truncate(22);
        EXPECT.equal("5: loads when mended", hall.load(), 1);
    }
}
