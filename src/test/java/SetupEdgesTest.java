import java.util.function.IntUnaryOperator;

/** The edges of promises 1 to 5 and of section 7: the input buffer and the setup text. */
public final class SetupEdgesTest {
    private static final Expect EXPECT = new Expect("SetupEdgesTest");
    private static final int MOST_BYTES = 600;

    public static void main(String[] args) {
        promise1NothingYet();
        promise2EachPlaceOfAByte();
        promise2EachByte();
        promise2SixHundredBytes();
        promise2OneByteTooMany();
        promise3Lengths();
        promise3FullAndEmpty();
        promise4EachEnd();
        promise4EachByteAsAToken();
        promise4SpacesEverywhere();
        promise4FourDigits();
        promise4LeastAndGreatest();
        promise4TooManyElsewhere();
        promise4AllThatThereCanBe();
        promise4FirstOfSeveral();
        promise4ChangesNothing();
        promise5LoadsLeastAndGreatest();
        promise5Refused();
        promise5StartsAgain();
        promise5RulesOfAnEarlierText();
        EXPECT.finish();
    }

    private static ClimbingHall withText(String text) {
        ClimbingHall hall = new ClimbingHall();
        Halls.put(hall, text);
        return hall;
    }

    private static void expectError(String text, int due) {
        EXPECT.equal("4: error in '" + text + "'", Halls.errorIn(text), due);
    }

    private static void promise1NothingYet() {
        Edges fresh = new Edges(EXPECT, ClimbingHall::new);
        fresh.answers("1: the buffer is empty", 0, hall -> hall.append(0, 0, 0, 0, 0));
        fresh.answers("1: an empty text ends too early", 0, hall -> hall.errorPosition());
        fresh.refused("1: nothing to load", Expect.ARGUMENT, hall -> hall.load());
        fresh.refused("1: nothing to undo", Expect.STATE, hall -> hall.undo());
        fresh.refused("1: no copy", Expect.STATE, hall -> hall.restore());
        fresh.refused("1: no route", Expect.OUTSIDE, hall -> hall.route(0, 0));
        fresh.refused("1: an empty archive", Expect.OUTSIDE, hall -> hall.archived(0, 0));
        fresh.answers("1: day", 0, hall -> hall.count(6));
    }

    // ---- Promise 2

    /** Appends twenty bytes that are all the same but for one. */
    private static int appendAround(ClimbingHall hall, int place, int one, int others) {
        StringBuilder twenty = new StringBuilder();
        for (int i = 0; i < 20; i++) {
            twenty.append((char) (i == place ? one : others));
        }
        String text = twenty.toString();
        return hall.append(Halls.four(text, 0), Halls.four(text, 4), Halls.four(text, 8),
                Halls.four(text, 12), Halls.four(text, 16));
    }

    private static void promise2EachPlaceOfAByte() {
        for (int place = 0; place < 20; place++) {
            ClimbingHall among = new ClimbingHall();
            EXPECT.equal("2: twenty bytes", appendAround(among, place, 'x', ' '), 20);
            EXPECT.equal("2: byte " + place, among.errorPosition(), place);
            ClimbingHall alone = new ClimbingHall();
            EXPECT.equal("2: a byte among zeros", appendAround(alone, place, 'x', 0), 1);
            EXPECT.equal("2: it is the first", alone.errorPosition(), 0);
            ClimbingHall missing = new ClimbingHall();
            EXPECT.equal("2: a zero among bytes", appendAround(missing, place, 0, ' '), 19);
            EXPECT.equal("2: it left no gap", appendAround(missing, 0, 'x', ' '), 39);
            EXPECT.equal("2: it left no gap", missing.errorPosition(), 19);
        }
    }

    private static void promise2EachByte() {
        for (int one = 0; one < 256; one++) {
            int due = one == 0 ? 0 : 1;
            EXPECT.equal("2: byte " + one, new ClimbingHall().append(one << 24, 0, 0, 0, 0), due);
            EXPECT.equal("2: byte " + one, new ClimbingHall().append(0, 0, 0, 0, one), due);
        }
    }

    private static void promise2SixHundredBytes() {
        ClimbingHall hall = new ClimbingHall();
        for (int length = 20; length <= MOST_BYTES; length += 20) {
            EXPECT.equal("2: length", appendAround(hall, 0, ' ', ' '), length);
        }
        EXPECT.equal("2: nothing more", hall.append(0, 0, 0, 0, 0), MOST_BYTES);
        for (int place = 0; place < 20; place++) {
            ClimbingHall last = withText(" ".repeat(MOST_BYTES - 1));
            EXPECT.equal("2: the last byte", appendAround(last, place, 'x', 0), MOST_BYTES);
            EXPECT.equal("2: it is there", last.errorPosition(), MOST_BYTES - 1);
        }
    }

    private static void promise2OneByteTooMany() {
        Edges full = new Edges(EXPECT, () -> withText(" ".repeat(MOST_BYTES)));
        Edges almost = new Edges(EXPECT, () -> withText(" ".repeat(MOST_BYTES - 19)));
        for (int place = 0; place < 20; place++) {
            int at = place;
            full.refused("2: byte 601 at " + at, Expect.STATE, hall -> appendAround(hall, at, 1, 0));
            full.refused("2: byte 601 at " + at, Expect.STATE, hall -> appendAround(hall, at, 255, 0));
            almost.answers("2: 19 more", MOST_BYTES, hall -> appendAround(hall, at, 0, ' '));
        }
        almost.refused("2: none of 20 more", Expect.STATE, hall -> appendAround(hall, 0, ';', ';'));
        full.refused("2: 20 more", Expect.STATE, hall -> hall.append(-1, -1, -1, -1, -1));
        new Edges(EXPECT, Halls::full).refused("2: of a full hall", Expect.STATE,
                hall -> hall.append(0, 0, 256, 0, 0));
    }

    // ---- Promise 3

    private static void promise3Lengths() {
        Edges some = new Edges(EXPECT, () -> withText("wall 3 0 1;"));
        some.range("3: length", Expect.ARGUMENT, 0, 11, (hall, length) -> hall.truncate(length));
        some.changesNothing("3: the present length", hall -> hall.truncate(11));
        for (int length = 0; length <= 11; length++) {
            int due = length;
            some.answers("3: its new length", due, hall -> hall.truncate(due));
            some.after(hall -> hall.truncate(due)).answers("3: is the length", due,
                    hall -> hall.append(0, 0, 0, 0, 0));
        }
        some.after(hall -> hall.truncate(10)).range("3: the length now", Expect.ARGUMENT, 0, 10,
                (hall, length) -> hall.truncate(length));
    }

    private static void promise3FullAndEmpty() {
        new Edges(EXPECT, ClimbingHall::new).range("3: length of an empty buffer", Expect.ARGUMENT,
                0, 0, (hall, length) -> hall.truncate(length));
        Edges full = new Edges(EXPECT, () -> withText(" ".repeat(MOST_BYTES)));
        full.range("3: length of a full buffer", Expect.ARGUMENT, 0, MOST_BYTES,
                (hall, length) -> hall.truncate(length));
        full.after(hall -> hall.truncate(MOST_BYTES - 1)).answers("3: room for one byte again",
                MOST_BYTES, hall -> hall.append(' ', 0, 0, 0, 0));
        full.after(hall -> hall.truncate(MOST_BYTES - 1)).refused("3: but not for two", Expect.STATE,
                hall -> hall.append(' ', ' ', 0, 0, 0));
    }

    // ---- Promise 4

    private static void promise4EachEnd() {
        String text = "wall 12 0 7;member 1 0";
        int[] due = {0, 0, 0, 0, 4, 5, 5, 7, 8, 9, 10, -1, 12, 12, 12, 12, 12, 12, 18, 19, 20, 21, -1};
        for (int end = 0; end < due.length; end++) {
            expectError(text.substring(0, end), due[end]);
            expectError(" " + text.substring(0, end), due[end] < 0 ? -1 : due[end] + 1);
            ClimbingHall cut = withText(text + text);
            cut.truncate(end);
            EXPECT.equal("4: what was cut off at " + end + " is not read", cut.errorPosition(),
                    due[end]);
        }
        String[] words = {"rules", "wall", "harness", "member", "course"};
        String[] numbers = {" 20 2 50", " 12 0 7", " 1 30", " 1 0", " 1 4 5"};
        for (int kind = 0; kind < words.length; kind++) {
            String word = words[kind];
            for (int end = 1; end < word.length(); end++) {
                expectError(word.substring(0, end), 0);
                expectError(word.substring(0, end) + numbers[kind], 0);
            }
            expectError(word, word.length());
            expectError(word + numbers[kind], -1);
            expectError(word + word + numbers[kind], 0);
            expectError(word + numbers[kind] + " 1", (word + numbers[kind]).length() + 1);
            int last = (word + numbers[kind]).lastIndexOf(' ');
            expectError((word + numbers[kind]).substring(0, last), last);
            expectError((word + numbers[kind]).substring(0, last) + ";", last);
        }
    }

    private static boolean isLetter(int one) {
        return one >= 'a' && one <= 'z';
    }

    private static boolean isDigit(int one) {
        return one >= '0' && one <= '9';
    }

    private static void promise4EachByteAsAToken() {
        expectBytes("", one -> one == ' ' ? 1 : 0);
        expectBytes("wall 3 0 1;", one -> one == ' ' ? 12 : 11);
        expectBytes("wall", one -> isLetter(one) ? 0 : one == ' ' || one >= '3' && one <= '9' ? 5 : 4);
        expectBytes("wall ", one -> one == ' ' || one >= '3' && one <= '9' ? 6 : 5);
        // The number becomes one of two digits, which is out of its range.
        expectBytes("wall 3 0 7", one -> one == ' ' ? -1 : one == ';' ? 11 : isDigit(one) ? 9 : 10);
        expectBytes("wall 3 0 7 ", one -> one == ' ' ? -1 : one == ';' ? 12 : 11);
    }

    private static void expectBytes(String before, IntUnaryOperator due) {
        for (int one = 1; one < 256; one++) {
            EXPECT.equal("4: '" + before + "' and byte " + one,
                    Halls.errorIn(before + (char) one), due.applyAsInt(one));
        }
    }

    private static void promise4SpacesEverywhere() {
        expectError("rules0 0 1;wall3 0 1;harness0 1;member0 0;course1 1 0", -1);
        expectError(" rules  0  0  1 ; wall  3  0  1 ; harness  0  1 ; member  0  0 ;"
                + " course  1  1  0 ", -1);
        expectError("ru les 0 0 1", 0);
        expectError("wall 1 2 0 7", 5);
        expectError("wall 12 05", 10);
        expectError("wall 12 07", 8);
        expectError("wall 1207", 5);
    }

    /** A number of three digits may begin with zeros, one of four digits is always an error. */
    private static void promise4FourDigits() {
        expectNumber("rules ", " 0 1", "000", "040");
        expectNumber("rules 0 ", " 1", "000", "010");
        expectNumber("rules 0 0 ", "", "001", "200");
        expectNumber("wall ", " 0 1", "003", "030");
        expectNumber("wall 3 ", " 1", "000", "005");
        expectNumber("wall 3 0 ", "", "001", "060");
        expectNumber("harness ", " 1", "000", "003");
        expectNumber("harness 0 ", "", "001", "365");
        expectNumber("member ", " 0", "000", "003");
        expectNumber("member 0 ", "", "000", "005");
        expectNumber("course ", " 1 0", "001", "005");
        expectNumber("course 1 ", " 0", "001", "012");
        expectNumber("course 1 1 ", "", "000", "200");
    }

    private static void expectNumber(String before, String behind, String least, String greatest) {
        expectError(before + least + behind, -1);
        expectError(before + greatest + behind, -1);
        expectError(before + "0" + least + behind, before.length());
        expectError(before + "0" + greatest + behind, before.length());
        expectError(before + "1000" + behind, before.length());
        expectError(before + "4294967299" + behind, before.length());
        expectError(before + "9".repeat(300) + behind, before.length());
        expectError(before, before.length());
        expectError(before + ";", before.length());
        expectError(before + "wall", before.length());
    }

    private static void promise4LeastAndGreatest() {
        expectError("rules 0 0 1;wall 3 0 1;harness 0 1;member 0 0;course 1 1 0", -1);
        expectError("rules 40 10 200;wall 30 5 60;harness 3 365;member 3 5;course 5 12 200", -1);
        // What a number may be follows from its own statement and its own place.
        expectError("rules 41 10 200", 6);
        expectError("rules 40 11 200", 9);
        expectError("rules 40 10 201", 12);
        expectError("rules 0 0 0", 10);
        expectError("wall 31 5 60", 5);
        expectError("wall 2 0 1", 5);
        expectError("wall 30 6 60", 8);
        expectError("wall 30 5 61", 10);
        expectError("wall 3 0 0", 9);
        expectError("harness 4 365", 8);
        expectError("harness 3 366", 10);
        expectError("harness 0 0", 10);
        expectError("member 4 5", 7);
        expectError("member 3 6", 9);
        expectError("course 6 12 200", 7);
        expectError("course 0 1 0", 7);
        expectError("course 5 13 200", 9);
        expectError("course 1 0 0", 9);
        expectError("course 5 12 201", 12);
    }

    private static void promise4TooManyElsewhere() {
        expectTooMany("rules 0 0 1", 1);
        expectTooMany("wall 3 0 1", 8);
        expectTooMany("harness 0 1", 15);
        expectTooMany("member 0 0", 12);
        expectTooMany("course 1 1 0", 8);
    }

    /** The one too many is an error at its word, whatever stands between or behind. */
    private static void expectTooMany(String statement, int most) {
        String word = statement.substring(0, statement.indexOf(' '));
        String other = word.equals("wall") ? "member 3 5" : "wall 30 5 60";
        String full = Halls.many(statement, most) + ";" + other + ";";
        expectError(full + statement, full.length());
        expectError(full + word, full.length());
        expectError(full + word + " x", full.length());
        expectError(full + "  " + word + "0", full.length() + 2);
        expectError(full + word.substring(1), full.length());
        expectError(full, full.length());
        expectError(full + other, -1);
        String fewer = other + ";" + Halls.many(statement, most);
        expectError(fewer, -1);
        ClimbingHall twice = withText(fewer);
        twice.errorPosition();
        EXPECT.equal("4: each check counts anew", twice.errorPosition(), -1);
    }

    /** A semicolon can go on then as anywhere else: what is wrong is the word behind it. */
    private static void promise4AllThatThereCanBe() {
        String all = Halls.many("wall 3 0 1", 8) + ";" + Halls.many("harness 0 1", 15) + ";"
                + Halls.many("member 0 0", 12) + ";" + Halls.many("course 1 1 0", 8)
                + ";rules 0 0 1";
        expectError(all, -1);
        expectError(all + " ", -1);
        expectError(all + ";", all.length() + 1);
        expectError(all + " ;  ", all.length() + 4);
        expectError(all + "x", all.length());
        for (String word : new String[] {"rules", "wall", "harness", "member", "course", "x", ";"}) {
            expectError(all + "; " + word, all.length() + 2);
            expectError(all + word, all.length() + (word.equals(";") ? 1 : 0));
        }
    }

    private static void promise4FirstOfSeveral() {
        expectError("wall 2 6 61", 5);
        expectError("wall 3 6 61", 7);
        expectError("wall 3 5 61 x", 9);
        expectError("wall 3 5 60 x;wal", 12);
        expectError("wall 3 5 60;wal x", 12);
        expectError("rules 0 0 1;rules 0 0 1;x", 12);
        expectError("rules 0 0 1;x;rules 0 0 1", 12);
        expectError("wall 3 0 1; ; wall", 12);
    }

    private static void promise4ChangesNothing() {
        Edges full = new Edges(EXPECT, Halls::full);
        full.changesNothing("4: a valid text", hall -> hall.errorPosition());
        full.after(hall -> hall.truncate(5)).changesNothing("4: one that is not valid",
                hall -> hall.errorPosition());
        full.after(hall -> hall.truncate(0)).changesNothing("4: none", hall -> hall.errorPosition());
        String most = " ".repeat(MOST_BYTES - 10);
        expectError("wall 3 0 1" + most, -1);
        expectError(most + "wall 3 0 1", -1);
        expectError(most + "wall 3 0 0", MOST_BYTES - 1);
        expectError(most + "wall 3 0 ;", MOST_BYTES - 1);
        expectError(most + "wall 3 0  ", MOST_BYTES);
    }

    // ---- Promise 5

    private static void promise5LoadsLeastAndGreatest() {
        ClimbingHall least = withText("rules 0 0 1;wall 3 0 1;harness 0 1;member 0 0;course 1 1 0");
        EXPECT.equal("5: one wall", least.load(), 1);
        expectParts("rules", least::count, 7, 0, 0, 1);
        expectParts("wall", what -> least.wall(0, what), 0, 3, 0, 1, 1);
        expectParts("harness", what -> least.harness(0, what), 0, 0, 1, 0, 1, 0, 1);
        expectParts("member", what -> least.member(0, what), 0, 0, 0, 0, -1, -1, 0);
        expectParts("course", what -> least.course(0, what), 0, 1, 1, 0, 0);
        ClimbingHall greatest = withText(Halls.many("wall 030 5 60", 8) + ";rules 040 010 200;"
                + Halls.many("harness 3 365", 15) + ";member 003 005;course 005 012 200");
        EXPECT.equal("5: eight walls", greatest.load(), 8);
        expectParts("rules", greatest::count, 7, 40, 10, 200);
        expectParts("wall", what -> greatest.wall(7, what), 0, 30, 5, 60, 60);
        expectParts("harness", what -> greatest.harness(14, what), 0, 3, 365, 0, 365, 0, 1);
        expectParts("member", what -> greatest.member(0, what), 0, 3, 5, 0, -1, -1, 0);
        expectParts("course", what -> greatest.course(0, what), 0, 5, 12, 200, 0);
        ClimbingHall rules = withText("rules 1 2 3");
        EXPECT.equal("5: no wall", rules.load(), 0);
        expectParts("rules alone", rules::count, 0, 0, 0, 0, 0, 0, 0, 0, 1, 2, 3);
    }

    private static void expectParts(String what, IntUnaryOperator part, int first, int... due) {
        for (int i = 0; i < due.length; i++) {
            EXPECT.equal("5: " + what + ", part " + (first + i), part.applyAsInt(first + i), due[i]);
        }
    }

    private static void promise5Refused() {
        Edges full = new Edges(EXPECT, Halls::full);
        String[] wrong = {"", " ", ";", "wall", "wall 3 0 1;", "wall 3 0 61", "wall 3 0 1;x",
            "rules 1 1 1;wall 3 0 1;rules 1 1 1", Halls.many("wall 3 0 1", 9)};
        for (String text : wrong) {
            Edges prepared = full.after(hall -> {
                hall.truncate(0);
                Halls.put(hall, text);
            });
            prepared.refused("5: '" + text + "'", Expect.ARGUMENT, hall -> hall.load());
        }
    }

    private static void promise5StartsAgain() {
        ClimbingHall hall = Halls.full();
        EXPECT.equal("5: one wall in place of eight", hall.load(), 1);
        EXPECT.equal("5: an empty buffer", hall.append(0, 0, 0, 0, 0), 0);
        EXPECT.equal("5: an empty text", hall.errorPosition(), 0);
        EXPECT.fails("5: not twice", Expect.ARGUMENT, () -> hall.load());
        expectParts("counts", hall::count, 0, 1, 0, 0, 0, 0, 0, 0, 20, 2, 50);
        EXPECT.equal("5: no undo history", hall.undoCount(), 0);
        EXPECT.fails("5: no undo", Expect.STATE, () -> hall.undo());
        EXPECT.fails("5: no copy", Expect.STATE, () -> hall.restore());
        EXPECT.equal("5: the first route again", hall.setRoute(0, 29), 0);
        EXPECT.equal("5: a new history", hall.undoCount(), 1);
        EXPECT.equal("5: it ends with the load", hall.undo(), 0);
        EXPECT.fails("5: no undo of a load", Expect.STATE, () -> hall.undo());
        hall.removeRoute(hall.setRoute(0, 7));
        EXPECT.equal("5: a new archive", hall.count(5), 1);
        EXPECT.equal("5: of this route alone", hall.archived(0, 1), 7);
    }

    private static void promise5RulesOfAnEarlierText() {
        ClimbingHall hall = withText("rules 1 1 1;x");
        hall.errorPosition();
        EXPECT.fails("5: not valid", Expect.ARGUMENT, () -> hall.load());
        hall.truncate(11);
        EXPECT.equal("5: mended", hall.load(), 0);
        expectParts("its rules", hall::count, 7, 1, 1, 1);
        Halls.put(hall, "rules 4 5 6");
        EXPECT.equal("5: at most once in each text", hall.load(), 0);
        expectParts("its rules", hall::count, 7, 4, 5, 6);
        Halls.put(hall, "member 3 5");
        hall.load();
        expectParts("the usual rules", hall::count, 7, 20, 2, 50);
    }
}
