/** The edges of promises 6 to 17 and of sections 1 to 6: the changes. */
public final class ChangeEdgesTest {
    private static final Expect EXPECT = new Expect("ChangeEdgesTest");
    private static final Edges FRESH = new Edges(EXPECT, ClimbingHall::new);
    private static final Edges FULL = new Edges(EXPECT, Halls::full);
    private static final Edges EMPTY = of("rules 20 2 50");

    public static void main(String[] args) {
        promise6Numbers();
        promise6Closed();
        promise6FiveOnAWall();
        promise6TwentyFour();
        promise7Numbers();
        promise7Behind();
        promise7AllPartsMoveUp();
        promise7ClosedWall();
        promise7ArchiveOfThirty();
        promise7AllOfTheArchive();
        promise8Numbers();
        promise8Level();
        promise8Harness();
        promise8Check();
        promise8Closed();
        promise8Worn();
        promise8WearOfAClimb();
        promise9Numbers();
        promise9NotClimbed();
        promise9NothingElseIsAsked();
        promise10Numbers();
        promise10NotAllowed();
        promise10Check();
        promise11GiveBack();
        promise12Numbers();
        promise12NotAllowed();
        promise12Days();
        promise13Numbers();
        promise13Level();
        promise13Climbs();
        promise13Seats();
        promise13InACourse();
        promise14LeaveCourse();
        promise15Numbers();
        promise15Sets();
        promise15Levels();
        promise16Postpone();
        promise16ClosedToday();
        promise17Days();
        promise17LastDay();
        promise17Resets();
        promise17ManyDaysAtOnce();
        promise17KeptHarnesses();
        EXPECT.finish();
    }

    private static Edges of(String text) {
        return new Edges(EXPECT, () -> Halls.of(text));
    }

    /** Routes of grade 5, five on a wall. */
    private static Edges withRoutes(String text, int number) {
        return of(text).after(hall -> {
            for (int route = 0; route < number; route++) {
                hall.setRoute(route / 5, 5);
            }
        });
    }

    // ---- Promise 6

    private static void promise6Numbers() {
        FRESH.rows("6: wall", 2, (hall, wall) -> hall.setRoute(wall, 5));
        of(Halls.many("wall 3 0 1", 8)).rows("6: wall", 8, (hall, wall) -> hall.setRoute(wall, 5));
        EMPTY.refused("6: no walls", Expect.OUTSIDE, hall -> hall.setRoute(0, 5));
        FRESH.range("6: grade", Expect.ARGUMENT, 0, 29, (hall, grade) -> hall.setRoute(1, grade));
        FRESH.refused("6: wall before grade", Expect.OUTSIDE, hall -> hall.setRoute(2, 30));
        FRESH.refused("6: wall before grade", Expect.OUTSIDE, hall -> hall.setRoute(-1, -1));
    }

    private static void promise6Closed() {
        FRESH.daysLater(6).answers("6: the day before", 0, hall -> hall.setRoute(0, 5));
        FRESH.daysLater(7).refused("6: closed today", Expect.STATE, hall -> hall.setRoute(0, 5));
        FRESH.daysLater(8).answers("6: the day behind", 0, hall -> hall.setRoute(0, 5));
        FRESH.daysLater(7).answers("6: another wall", 0, hall -> hall.setRoute(1, 5));
        FRESH.daysLater(7).after(hall -> hall.postpone(0, 1)).answers("6: postponed", 0,
                hall -> hall.setRoute(0, 5));
        FRESH.daysLater(7).refused("6: grade before closed", Expect.ARGUMENT,
                hall -> hall.setRoute(0, 30));
        FRESH.daysLater(7).refused("6: wall before closed", Expect.OUTSIDE,
                hall -> hall.setRoute(2, 5));
        of("wall 3 0 1").answers("6: not at first", 0, hall -> hall.setRoute(0, 5));
        of("wall 3 0 1").daysLater(1).refused("6: each day", Expect.STATE, hall -> hall.setRoute(0, 5));
        of("wall 3 0 1").daysLater(2).refused("6: each day", Expect.STATE, hall -> hall.setRoute(0, 5));
    }

    private static void promise6FiveOnAWall() {
        Edges four = withRoutes("wall 3 0 9;wall 3 0 9", 4);
        four.answers("6: the fifth", 4, hall -> hall.setRoute(0, 5));
        Edges five = four.after(hall -> hall.setRoute(0, 5));
        five.refused("6: the sixth", Expect.STATE, hall -> hall.setRoute(0, 5));
        five.refused("6: grade before the sixth", Expect.ARGUMENT, hall -> hall.setRoute(0, -1));
        five.refused("6: wall before the sixth", Expect.OUTSIDE, hall -> hall.setRoute(2, 5));
        five.answers("6: on another wall", 5, hall -> hall.setRoute(1, 5));
        five.after(hall -> hall.removeRoute(0)).answers("6: room again", 4,
                hall -> hall.setRoute(0, 5));
    }

    private static void promise6TwentyFour() {
        Edges most = withRoutes(Halls.many("wall 3 0 9", 8), 23);
        most.answers("6: the 24th", 23, hall -> hall.setRoute(7, 5));
        Edges all = most.after(hall -> hall.setRoute(7, 5));
        all.refused("6: the 25th", Expect.STATE, hall -> hall.setRoute(7, 5));
        all.refused("6: the 25th, on a wall without routes", Expect.STATE,
                hall -> hall.setRoute(6, 5));
        all.refused("6: grade before the 25th", Expect.ARGUMENT, hall -> hall.setRoute(6, 30));
        all.refused("6: wall before the 25th", Expect.OUTSIDE, hall -> hall.setRoute(8, 30));
        FULL.refused("6: a full hall", Expect.STATE, hall -> hall.setRoute(7, 0));
        FULL.after(hall -> hall.removeRoute(0)).answers("6: room again", 23,
                hall -> hall.setRoute(7, 0));
    }

    // ---- Promise 7

    private static void promise7Numbers() {
        FULL.rows("7: route", 24, (hall, route) -> hall.removeRoute(route));
        FRESH.refused("7: no routes", Expect.OUTSIDE, hall -> hall.removeRoute(0));
        FRESH.after(hall -> hall.setRoute(1, 29)).rows("7: the only route", 1,
                (hall, route) -> hall.removeRoute(route));
        FRESH.after(hall -> hall.setRoute(1, 29)).answers("7: its grade", 29,
                hall -> hall.removeRoute(0));
        // Of 13 grades the least and the greatest are dropped: 2, 4 .. 22 are left.
        FULL.answers("7: its grade by votes", 12, hall -> hall.removeRoute(23));
    }

    private static void promise7Behind() {
        Edges first = FULL.after(hall -> hall.removeRoute(0));
        first.answers("7: 1 route less", 23, hall -> hall.count(1));
        first.answers("7: the last one has the votes", 12, hall -> hall.route(22, 5));
        first.answers("7: one of them", 22, hall -> hall.voteOf(11, 22));
        first.answers("7: its climbers may vote", 12, hall -> hall.vote(5, 22, 10));
        first.answers("7: the first is the second", 1, hall -> hall.route(0, 1));
        first.refused("7: no route 23", Expect.OUTSIDE, hall -> hall.route(23, 0));
        Edges last = FULL.after(hall -> hall.removeRoute(23));
        last.answers("7: the first stays", 0, hall -> hall.route(0, 1));
        last.answers("7: the last stays", 22, hall -> hall.route(22, 1));
        last.answers("7: it has no votes", 0, hall -> hall.route(22, 5));
        last.refused("7: no route 23", Expect.OUTSIDE, hall -> hall.route(23, 0));
        Edges middle = FULL.after(hall -> hall.removeRoute(12));
        middle.answers("7: before it", 11, hall -> hall.route(11, 1));
        middle.answers("7: behind it", 13, hall -> hall.route(12, 1));
    }

    /** Routes that differ in each part; without some of them, the others are as they were. */
    private static void promise7AllPartsMoveUp() {
        for (int number = 0; number < 5; number++) {
            int removed = number;
            ClimbingHall hall = differentRoutes();
            ClimbingHall whole = differentRoutes();
            EXPECT.equal("7: its grade", hall.removeRoute(removed), whole.grade(removed));
            expectRows("7: removed " + removed, hall, whole, row -> row != removed);
        }
        ClimbingHall reset = differentRoutes();
        // Wall 0, on which are routes 0, 2 and 4, is closed on day 7.
        EXPECT.equal("17: the reset of one wall", reset.endDays(4), 3);
        expectRows("17: behind a reset", reset, differentRoutes(), row -> row % 2 == 1);
    }

    /** Five routes, each set on its own day, climbed and voted for in its own way; day 4. */
    private static ClimbingHall differentRoutes() {
        ClimbingHall hall = Halls.of("rules 0 1 200;wall 3 0 7;wall 3 0 60;harness 0 60;harness 0 60;"
                + "member 0 0;member 0 0");
        hall.lend(0, 0);
        hall.lend(1, 1);
        for (int route = 0; route < 5; route++) {
            hall.setRoute(route % 2, 25 - 5 * route);
            Halls.climb(hall, route % 2, route, route + 1);
            hall.climb(1 - route % 2, route);
            hall.vote(route % 2, route, 3 * route);
            if (route < 4) {
                hall.vote(1 - route % 2, route, 29 - route);
                hall.endDays(1);
            }
        }
        return hall;
    }

    /** The rows that stay are one behind the other, with all that was theirs. */
    private static void expectRows(String what, ClimbingHall hall, ClimbingHall whole,
            java.util.function.IntPredicate stays) {
        int row = 0;
        for (int before = 0; before < whole.count(1); before++) {
            if (!stays.test(before)) {
                continue;
            }
            for (int part = 0; part < 7; part++) {
                EXPECT.equal(what + ", route " + before + ", part " + part, hall.route(row, part),
                        whole.route(before, part));
            }
            EXPECT.equal(what + ", grade", hall.grade(row), whole.grade(before));
            for (int member = 0; member < 2; member++) {
                EXPECT.equal(what + ", vote", Halls.voteOrNone(hall, member, row),
                        Halls.voteOrNone(whole, member, before));
            }
            row++;
        }
        EXPECT.equal(what + ", no others", hall.count(1), row);
    }

    private static void promise7ClosedWall() {
        Edges closed = FRESH.after(hall -> hall.setRoute(0, 8)).daysLater(7);
        closed.answers("7: closed", 1, hall -> hall.wall(0, 5));
        closed.answers("7: on a closed wall", 8, hall -> hall.removeRoute(0));
        closed.after(hall -> hall.removeRoute(0)).answers("7: on this day", 7,
                hall -> hall.archived(0, 2));
        closed.after(hall -> hall.removeRoute(0)).answers("7: not once more", 0,
                hall -> hall.endDays(1));
    }

    private static void promise7ArchiveOfThirty() {
        ClimbingHall hall = Halls.of("wall 3 0 60");
        for (int number = 1; number <= 32; number++) {
            hall.setRoute(0, number % 30);
            hall.removeRoute(0);
            EXPECT.equal("7: in the archive", hall.count(5), Math.min(number, 30));
            int oldest = number <= 30 ? 1 : number - 29;
            EXPECT.equal("7: the oldest of the latest 30", hall.archived(0, 1), oldest);
            EXPECT.equal("7: the latest", hall.archived(hall.count(5) - 1, 1), number % 30);
        }
        EXPECT.fails("7: not 31", Expect.OUTSIDE, () -> hall.archived(30, 0));
        Edges full = FULL.after(one -> one.removeRoute(23));
        full.answers("7: its wall", 4, one -> one.archived(29, 0));
        full.answers("7: its grade", 12, one -> one.archived(29, 1));
        full.answers("7: the day", 3, one -> one.archived(29, 2));
        full.answers("7: its climbs", 12, one -> one.archived(29, 3));
        full.answers("7: the first is gone", 1, one -> one.archived(0, 1));
        full.after(one -> one.undo()).answers("7: undone, it is back", 0, one -> one.archived(0, 1));
    }

    /** Routes that differ in all four parts; beyond 30 the archive moves on with all of them. */
    private static void promise7AllOfTheArchive() {
        ClimbingHall hall = Halls.of("rules 0 1 200;wall 3 0 50;wall 3 0 60;wall 3 0 50;harness 0 60;"
                + "member 0 0");
        hall.lend(0, 0);
        for (int number = 0; number < 35; number++) {
            hall.setRoute(number % 3, number % 10);
            Halls.climb(hall, 0, 0, number % 4);
            hall.removeRoute(0);
            hall.endDays(1);
        }
        for (int index = 0; index < 30; index++) {
            int number = index + 5;
            int[] due = {number % 3, number % 10, number, number % 4};
            for (int part = 0; part < due.length; part++) {
                EXPECT.equal("25: the latest 30, " + index + ", part " + part,
                        hall.archived(index, part), due[part]);
            }
        }
    }

    // ---- Promise 8

    private static void promise8Numbers() {
        FULL.rows("8: member", 12, (hall, member) -> hall.climb(member, 23));
        FULL.rows("8: route", 24, (hall, route) -> hall.climb(0, route));
        FULL.refused("8: both", Expect.OUTSIDE, hall -> hall.climb(12, 24));
        FRESH.refused("8: no routes", Expect.OUTSIDE, hall -> hall.climb(0, 0));
        Edges bare = FRESH.after(hall -> hall.setRoute(0, 5));
        bare.refused("8: member before no harness", Expect.OUTSIDE, hall -> hall.climb(2, 0));
        bare.refused("8: route before no harness", Expect.OUTSIDE, hall -> hall.climb(0, 1));
        of("wall 3 0 1").after(hall -> hall.setRoute(0, 1)).refused("8: no members", Expect.OUTSIDE,
                hall -> hall.climb(0, 0));
    }

    /** A wall and members of certain levels; each has a harness, and there is one route. */
    private static Edges levels(int wall, int... members) {
        StringBuilder text = new StringBuilder("wall 3 " + wall + " 60");
        for (int level : members) {
            text.append(";harness 0 60;member 0 ").append(level);
        }
        return of(text.toString()).after(hall -> {
            hall.setRoute(0, 5);
            for (int member = 0; member < members.length; member++) {
                hall.lend(member, member);
            }
        });
    }

    private static void promise8Level() {
        for (int level = 0; level <= 5; level++) {
            Edges edges = levels(level, 0, 1, 2, 3, 4, 5);
            for (int of = 0; of <= 5; of++) {
                int member = of;
                if (of >= level) {
                    edges.answers("8: level " + of, 1, hall -> hall.climb(member, 0));
                } else {
                    edges.refused("8: level " + of, Expect.STATE, hall -> hall.climb(member, 0));
                }
            }
        }
    }

    private static void promise8Harness() {
        Edges bare = FRESH.after(hall -> hall.setRoute(0, 5));
        bare.refused("8: no harness", Expect.STATE, hall -> hall.climb(0, 0));
        Edges lent = bare.after(hall -> hall.lend(0, 0));
        lent.answers("8: with one", 1, hall -> hall.climb(0, 0));
        lent.refused("8: another has it", Expect.STATE, hall -> hall.climb(1, 0));
        lent.after(hall -> hall.giveBack(0)).refused("8: given back", Expect.STATE,
                hall -> hall.climb(0, 0));
    }

    private static void promise8Check() {
        for (int validity : new int[] {1, 2, 59, 365}) {
            Edges edges = of("wall 3 0 60;harness 0 " + validity + ";member 0 0").after(hall -> {
                hall.lend(0, 0);
                Halls.endDays(hall, validity - 1);
                hall.setRoute(0, 5);
            });
            edges.answers("8: the last day in force of " + validity, 1, hall -> hall.climb(0, 0));
            edges.daysLater(1).refused("8: the day of the lapse of " + validity, Expect.STATE,
                    hall -> hall.climb(0, 0));
            edges.daysLater(2).refused("8: the day behind it", Expect.STATE, hall -> hall.climb(0, 0));
        }
    }

    private static void promise8Closed() {
        Edges edges = FRESH.after(hall -> hall.setRoute(0, 5)).after(hall -> hall.lend(0, 0));
        edges.daysLater(6).answers("8: the day before", 1, hall -> hall.climb(0, 0));
        edges.daysLater(7).refused("8: closed today", Expect.STATE, hall -> hall.climb(0, 0));
        Edges postponed = edges.daysLater(7).after(hall -> hall.postpone(0, 1));
        postponed.answers("8: postponed, it is open", 1, hall -> hall.climb(0, 0));
        postponed.daysLater(1).refused("8: closed on the next day", Expect.STATE,
                hall -> hall.climb(0, 0));
        edges.daysLater(8).refused("8: gone", Expect.OUTSIDE, hall -> hall.climb(0, 0));
    }

    private static Edges climbed(int wear, int grade, int climbs) {
        return of("rules 0 1 " + wear + ";wall 3 0 60;harness 0 60;member 0 0").after(hall -> {
            hall.setRoute(0, grade);
            hall.lend(0, 0);
            Halls.climb(hall, 0, 0, climbs);
        });
    }

    private static void promise8Worn() {
        climbed(1, 0, 0).answers("8: WEAR 1, not worn", 1, hall -> hall.climb(0, 0));
        climbed(1, 0, 1).refused("8: WEAR 1, worn", Expect.STATE, hall -> hall.climb(0, 0));
        climbed(200, 9, 199).answers("8: wear 199", 200, hall -> hall.climb(0, 0));
        climbed(200, 9, 200).refused("8: wear 200", Expect.STATE, hall -> hall.climb(0, 0));
        climbed(4, 29, 1).answers("8: wear 3 of 4", 6, hall -> hall.climb(0, 0));
        climbed(4, 29, 2).refused("8: wear 6 of 4", Expect.STATE, hall -> hall.climb(0, 0));
        climbed(4, 10, 1).answers("8: wear 2 of 4", 4, hall -> hall.climb(0, 0));
        climbed(4, 10, 2).refused("8: wear 4 of 4", Expect.STATE, hall -> hall.climb(0, 0));
        climbed(4, 10, 2).after(hall -> hall.undo()).answers("8: undone", 4, hall -> hall.climb(0, 0));
    }

    private static void promise8WearOfAClimb() {
        for (int grade = 0; grade <= 29; grade++) {
            int due = grade < 10 ? 1 : grade < 20 ? 2 : 3;
            climbed(50, grade, 0).answers("8: grade " + grade, due, hall -> hall.climb(0, 0));
        }
        Edges voted = climbed(50, 9, 1).after(hall -> hall.vote(0, 0, 10));
        voted.answers("8: by the grade, 10 by votes", 3, hall -> hall.climb(0, 0));
        climbed(50, 29, 1).after(hall -> hall.vote(0, 0, 0)).answers("8: 15 by votes", 5,
                hall -> hall.climb(0, 0));
    }

    // ---- Promise 9

    private static void promise9Numbers() {
        FULL.rows("9: member", 12, (hall, member) -> hall.vote(member, 23, 5));
        FULL.after(hall -> hall.climb(0, 0)).rows("9: route", 24,
                (hall, route) -> hall.vote(0, route, 5));
        FULL.range("9: grade", Expect.ARGUMENT, 0, 29, (hall, grade) -> hall.vote(0, 23, grade));
        FULL.refused("9: member before grade", Expect.OUTSIDE, hall -> hall.vote(12, 23, 30));
        FULL.refused("9: route before grade", Expect.OUTSIDE, hall -> hall.vote(0, 24, -1));
        FULL.refused("9: grade before not climbed", Expect.ARGUMENT, hall -> hall.vote(0, 22, 30));
        FULL.refused("9: grade before not climbed", Expect.ARGUMENT, hall -> hall.vote(0, 22, -1));
        FRESH.refused("9: no routes", Expect.OUTSIDE, hall -> hall.vote(0, 0, 5));
    }

    private static void promise9NotClimbed() {
        FULL.refused("9: not climbed", Expect.STATE, hall -> hall.vote(0, 22, 5));
        FULL.refused("9: not climbed", Expect.STATE, hall -> hall.vote(11, 0, 5));
        Edges climbed = FULL.after(hall -> hall.climb(11, 0));
        climbed.answers("9: climbed", 15, hall -> hall.vote(11, 0, 29));
        climbed.refused("9: climbed by another", Expect.STATE, hall -> hall.vote(10, 0, 5));
        climbed.after(hall -> hall.undo()).refused("9: the climb undone", Expect.STATE,
                hall -> hall.vote(11, 0, 5));
        climbed.after(hall -> hall.removeRoute(0)).refused("9: the next route", Expect.STATE,
                hall -> hall.vote(11, 0, 5));
        Edges again = FULL.after(hall -> hall.vote(0, 23, 29));
        again.answers("9: in place of an earlier vote", 12, hall -> hall.route(23, 5));
        again.answers("9: this one", 29, hall -> hall.voteOf(0, 23));
    }

    private static void promise9NothingElseIsAsked() {
        climbed(1, 9, 1).answers("9: a worn route", 19, hall -> hall.vote(0, 0, 29));
        Edges back = climbed(9, 9, 1).after(hall -> hall.giveBack(0));
        back.answers("9: without a harness", 19, hall -> hall.vote(0, 0, 29));
        Edges late = FRESH.after(hall -> hall.setRoute(0, 9)).after(hall -> hall.lend(0, 0))
                .after(hall -> hall.climb(0, 0));
        late.daysLater(7).answers("9: a closed wall", 16, hall -> hall.vote(0, 0, 29));
        Edges lapsed = climbed(9, 9, 1).daysLater(60);
        lapsed.answers("9: lapsed", 0, hall -> hall.harness(0, 5));
        lapsed.answers("9: a lapsed check", 19, hall -> hall.vote(0, 0, 29));
    }

    // ---- Promises 10 and 11

    private static Edges allFree() {
        return of(Halls.many("harness 2 365", 15) + ";" + Halls.many("member 2 0", 12)
                + ";wall 3 0 60");
    }

    private static void promise10Numbers() {
        allFree().rows("10: member", 12, (hall, member) -> hall.lend(member, 14));
        allFree().rows("10: harness", 15, (hall, harness) -> hall.lend(11, harness));
        FULL.refused("10: member before has one", Expect.OUTSIDE, hall -> hall.lend(12, 0));
        FULL.refused("10: harness before has one", Expect.OUTSIDE, hall -> hall.lend(0, 15));
        FULL.refused("10: both", Expect.OUTSIDE, hall -> hall.lend(-1, -1));
        EMPTY.refused("10: none of both", Expect.OUTSIDE, hall -> hall.lend(0, 0));
        of("member 0 0").refused("10: no harnesses", Expect.OUTSIDE, hall -> hall.lend(0, 0));
        of("harness 0 1").refused("10: no members", Expect.OUTSIDE, hall -> hall.lend(0, 0));
    }

    private static void promise10NotAllowed() {
        Edges two = allFree().after(hall -> hall.lend(0, 0));
        two.refused("10: the member has one", Expect.STATE, hall -> hall.lend(0, 1));
        two.refused("10: the member has this one", Expect.STATE, hall -> hall.lend(0, 0));
        two.refused("10: lent to another", Expect.STATE, hall -> hall.lend(1, 0));
        two.answers("10: another harness", 365, hall -> hall.lend(1, 1));
        two.after(hall -> hall.giveBack(0)).answers("10: free again", 365, hall -> hall.lend(1, 0));
        two.after(hall -> hall.giveBack(0)).answers("10: not any more", 365, hall -> hall.lend(0, 1));
        Edges retired = allFree().after(hall -> hall.check(3, false));
        retired.refused("10: retired", Expect.STATE, hall -> hall.lend(0, 3));
        for (int size = 0; size <= 3; size++) {
            for (int other = 0; other <= 3; other++) {
                Edges sizes = of("harness " + size + " 5;member " + other + " 0");
                if (size == other) {
                    sizes.answers("10: size " + size, 5, hall -> hall.lend(0, 0));
                } else {
                    sizes.refused("10: sizes", Expect.STATE, hall -> hall.lend(0, 0));
                }
            }
        }
    }

    private static void promise10Check() {
        for (int validity : new int[] {1, 2, 365}) {
            Edges edges = of("harness 0 " + validity + ";member 0 0");
            edges.daysLater(validity - 1).answers("10: the last day in force", validity,
                    hall -> hall.lend(0, 0));
            edges.daysLater(validity).refused("10: the day of the lapse", Expect.STATE,
                    hall -> hall.lend(0, 0));
            Edges checked = edges.daysLater(validity).after(hall -> hall.check(0, true));
            checked.answers("10: checked", 2 * validity, hall -> hall.lend(0, 0));
            checked.daysLater(validity).refused("10: lapsed again", Expect.STATE,
                    hall -> hall.lend(0, 0));
        }
        Edges lent = of("harness 0 5;member 0 0;member 0 0").after(hall -> hall.lend(0, 0));
        lent.daysLater(5).answers("10: stays lent", 1, hall -> hall.harness(0, 4));
        lent.daysLater(5).answers("10: stays lent", 0, hall -> hall.member(0, 3));
        lent.daysLater(5).refused("10: the member has it still", Expect.STATE, hall -> hall.lend(0, 0));
    }

    private static void promise11GiveBack() {
        FULL.rows("11: member", 12, (hall, member) -> hall.giveBack(member));
        FULL.answers("11: its number", 11, hall -> hall.giveBack(11));
        FULL.answers("11: number 0", 0, hall -> hall.giveBack(0));
        EMPTY.refused("11: no members", Expect.OUTSIDE, hall -> hall.giveBack(0));
        FRESH.refused("11: none", Expect.STATE, hall -> hall.giveBack(0));
        FRESH.refused("11: member first", Expect.OUTSIDE, hall -> hall.giveBack(2));
        Edges lent = FRESH.after(hall -> hall.lend(0, 0));
        lent.refused("11: another has one", Expect.STATE, hall -> hall.giveBack(1));
        lent.after(hall -> hall.giveBack(0)).refused("11: twice", Expect.STATE,
                hall -> hall.giveBack(0));
        lent.daysLater(30).answers("11: lapsed", 0, hall -> hall.giveBack(0));
    }

    // ---- Promise 12

    private static void promise12Numbers() {
        allFree().rows("12: harness", 15, (hall, harness) -> hall.check(harness, true));
        allFree().rows("12: harness", 15, (hall, harness) -> hall.check(harness, false));
        EMPTY.refused("12: no harnesses", Expect.OUTSIDE, hall -> hall.check(0, true));
    }

    private static void promise12NotAllowed() {
        for (boolean good : new boolean[] {true, false}) {
            FULL.refused("12: lent", Expect.STATE, hall -> hall.check(0, good));
            FULL.refused("12: retired", Expect.STATE, hall -> hall.check(14, good));
            FULL.answers("12: free", good ? 3 + 365 : -1, hall -> hall.check(12, good));
            FULL.answers("12: lapsed", good ? 3 + 1 : -1, hall -> hall.check(13, good));
            FULL.refused("12: harness first", Expect.OUTSIDE, hall -> hall.check(15, good));
            Edges lapsed = FRESH.after(hall -> hall.lend(0, 0)).daysLater(30);
            lapsed.refused("12: lent, lapsed", Expect.STATE, hall -> hall.check(0, good));
        }
        Edges retired = allFree().after(hall -> hall.check(0, false)).daysLater(60);
        retired.refused("12: retired for ever", Expect.STATE, hall -> hall.check(0, true));
        retired.answers("12: retired for ever", 2, hall -> hall.harness(0, 4));
        allFree().after(hall -> hall.check(0, false)).after(hall -> hall.undo())
                .answers("12: unless that is undone", 365, hall -> hall.check(0, true));
    }

    private static void promise12Days() {
        Edges edges = of("harness 0 1;harness 0 365");
        edges.answers("12: day 0", 1, hall -> hall.check(0, true));
        edges.answers("12: day 0", 365, hall -> hall.check(1, true));
        edges.daysLater(9999).answers("12: the last day", 10000, hall -> hall.check(0, true));
        edges.daysLater(9999).answers("12: the last day", 10364, hall -> hall.check(1, true));
        Edges bad = edges.daysLater(7).after(hall -> hall.check(1, false));
        bad.answers("12: the latest check, too", 7, hall -> hall.harness(1, 2));
        bad.answers("12: retired", 2, hall -> hall.harness(1, 4));
        bad.answers("12: none in force", 0, hall -> hall.harness(1, 5));
    }

    // ---- Promises 13 to 15

    private static void promise13Numbers() {
        Edges out = of(Halls.many("member 0 4", 12) + ";" + Halls.many("course 5 12 0", 8));
        out.rows("13: member", 12, (hall, member) -> hall.enroll(member, 7));
        out.rows("13: course", 8, (hall, course) -> hall.enroll(11, course));
        FULL.refused("13: member before in a course", Expect.OUTSIDE, hall -> hall.enroll(12, 0));
        FULL.refused("13: course before in a course", Expect.OUTSIDE, hall -> hall.enroll(0, 8));
        EMPTY.refused("13: none of both", Expect.OUTSIDE, hall -> hall.enroll(0, 0));
        of("member 0 0").refused("13: no courses", Expect.OUTSIDE, hall -> hall.enroll(0, 0));
        of("course 1 1 0").refused("13: no members", Expect.OUTSIDE, hall -> hall.enroll(0, 0));
    }

    private static void promise13Level() {
        for (int level = 0; level <= 5; level++) {
            for (int course = 1; course <= 5; course++) {
                Edges edges = of("member 0 " + level + ";course " + course + " 1 0");
                if (level == course - 1) {
                    edges.answers("13: level - 1", 1, hall -> hall.enroll(0, 0));
                } else {
                    edges.refused("13: level " + level + " to " + course, Expect.STATE,
                            hall -> hall.enroll(0, 0));
                }
            }
        }
    }

    private static void promise13Climbs() {
        Edges none = of("member 0 0;course 1 1 0;course 1 1 1");
        none.answers("13: no climbs are needed", 1, hall -> hall.enroll(0, 0));
        none.refused("13: one is", Expect.STATE, hall -> hall.enroll(0, 1));
        Edges some = of("rules 0 0 200;wall 3 0 60;harness 0 60;member 0 0;course 1 1 200")
                .after(hall -> {
                    hall.setRoute(0, 0);
                    hall.setRoute(0, 0);
                    hall.lend(0, 0);
                    Halls.climb(hall, 0, 0, 100);
                    Halls.climb(hall, 0, 1, 99);
                });
        some.refused("13: 199 climbs", Expect.STATE, hall -> hall.enroll(0, 0));
        Edges enough = some.after(hall -> hall.climb(0, 1));
        enough.answers("13: 200 climbs", 1, hall -> hall.enroll(0, 0));
        enough.after(hall -> hall.removeRoute(0)).answers("13: also on routes that are gone", 1,
                hall -> hall.enroll(0, 0));
    }

    private static Edges seats(int seats, int enrolled) {
        return of(Halls.many("member 0 0", 12) + ";course 1 " + seats + " 0").after(hall -> {
            for (int member = 0; member < enrolled; member++) {
                hall.enroll(member, 0);
            }
        });
    }

    private static void promise13Seats() {
        for (int seats = 1; seats <= 11; seats++) {
            seats(seats, seats - 1).answers("13: the last seat", seats, hall -> hall.enroll(11, 0));
            seats(seats, seats).refused("13: no seat", Expect.STATE, hall -> hall.enroll(11, 0));
            Edges again = seats(seats, seats).after(hall -> hall.leaveCourse(0));
            again.answers("13: a seat again", seats, hall -> hall.enroll(11, 0));
        }
        seats(12, 11).answers("13: the twelfth", 12, hall -> hall.enroll(11, 0));
        seats(12, 12).answers("13: all are in it", 0b111111111111, hall -> hall.course(0, 3));
    }

    private static void promise13InACourse() {
        Edges in = of("member 0 0;course 1 2 0;course 1 2 0").after(hall -> hall.enroll(0, 0));
        in.refused("13: in this course", Expect.STATE, hall -> hall.enroll(0, 0));
        in.refused("13: in another one", Expect.STATE, hall -> hall.enroll(0, 1));
        in.after(hall -> hall.leaveCourse(0)).answers("13: in none again", 1,
                hall -> hall.enroll(0, 1));
        in.after(hall -> hall.finish(0, 0)).answers("13: not passed", 1, hall -> hall.enroll(0, 1));
        in.after(hall -> hall.finish(0, 1)).refused("13: passed", Expect.STATE,
                hall -> hall.enroll(0, 1));
    }

    private static void promise14LeaveCourse() {
        FULL.rows("14: member", 12, (hall, member) -> hall.leaveCourse(member));
        FULL.answers("14: its number", 7, hall -> hall.leaveCourse(11));
        FULL.answers("14: number 0", 0, hall -> hall.leaveCourse(0));
        EMPTY.refused("14: no members", Expect.OUTSIDE, hall -> hall.leaveCourse(0));
        FRESH.refused("14: in none", Expect.STATE, hall -> hall.leaveCourse(1));
        FRESH.refused("14: member first", Expect.OUTSIDE, hall -> hall.leaveCourse(2));
        FULL.after(hall -> hall.leaveCourse(11)).refused("14: twice", Expect.STATE,
                hall -> hall.leaveCourse(11));
        FULL.after(hall -> hall.finish(7, 0)).refused("14: finished", Expect.STATE,
                hall -> hall.leaveCourse(11));
    }

    private static void promise15Numbers() {
        FULL.rows("15: course", 8, (hall, course) -> hall.finish(course, 1));
        FULL.rows("15: course", 8, (hall, course) -> hall.finish(course, -1));
        EMPTY.refused("15: no courses", Expect.OUTSIDE, hall -> hall.finish(0, 0));
        FULL.answers("15: nobody is in it", 0, hall -> hall.finish(6, -1));
        FULL.after(hall -> hall.finish(6, -1)).answers("15: a change, though", 8,
                hall -> hall.undoCount());
    }

    private static void promise15Sets() {
        FULL.answers("15: nobody passed", 0, hall -> hall.finish(7, 0));
        FULL.answers("15: all bits", 6, hall -> hall.finish(7, -1));
        FULL.answers("15: the greatest number", 6, hall -> hall.finish(7, Integer.MAX_VALUE));
        FULL.answers("15: the least number", 0, hall -> hall.finish(7, Integer.MIN_VALUE));
        FULL.answers("15: members of others", 0, hall -> hall.finish(7, 0b000000111111));
        FULL.answers("15: no members", 0, hall -> hall.finish(7, -1 << 12));
        FULL.answers("15: the last one", 1, hall -> hall.finish(7, 1 << 11));
        FULL.answers("15: the first one", 1, hall -> hall.finish(7, 1 << 6));
        FULL.answers("15: the only one", 1, hall -> hall.finish(0, 1));
        seats(12, 12).answers("15: twelve", 12, hall -> hall.finish(0, 0b111111111111));
    }

    private static void promise15Levels() {
        Edges finished = FULL.after(hall -> hall.finish(7, 1 << 11 | 1 << 6 | 1));
        finished.answers("15: passed", 5, hall -> hall.member(11, 1));
        finished.answers("15: passed", 5, hall -> hall.member(6, 1));
        finished.answers("15: not passed", 4, hall -> hall.member(7, 1));
        finished.answers("15: not in the course", 0, hall -> hall.member(0, 1));
        finished.answers("15: in none now", -1, hall -> hall.member(11, 4));
        finished.answers("15: in none now", -1, hall -> hall.member(7, 4));
        finished.answers("15: still in the other", 0, hall -> hall.member(0, 4));
        finished.answers("15: nobody is in it", 0, hall -> hall.course(7, 3));
        finished.answers("15: finished again", 0, hall -> hall.finish(7, -1));
        finished.after(hall -> hall.finish(7, -1)).answers("15: without effect", 4,
                hall -> hall.member(7, 1));
    }

    // ---- Promise 16

    private static void promise16Postpone() {
        FULL.rows("16: wall", 8, (hall, wall) -> hall.postpone(wall, 1));
        FULL.range("16: days", Expect.ARGUMENT, 1, 14, (hall, days) -> hall.postpone(7, days));
        FULL.refused("16: wall before days", Expect.OUTSIDE, hall -> hall.postpone(8, 0));
        FULL.refused("16: wall before days", Expect.OUTSIDE, hall -> hall.postpone(-1, 15));
        EMPTY.refused("16: no walls", Expect.OUTSIDE, hall -> hall.postpone(0, 1));
        FRESH.answers("16: 1 day", 8, hall -> hall.postpone(0, 1));
        FRESH.answers("16: 14 days", 24, hall -> hall.postpone(1, 14));
        FRESH.after(hall -> hall.postpone(0, 14)).answers("16: twice", 35,
                hall -> hall.postpone(0, 14));
        FRESH.after(hall -> hall.postpone(0, 14)).answers("16: this one alone", 10,
                hall -> hall.wall(1, 3));
        FRESH.after(hall -> hall.postpone(0, 14)).answers("16: the period stays", 7,
                hall -> hall.wall(0, 2));
        FRESH.daysLater(9999).after(hall -> hall.postpone(0, 14)).answers("16: the last day", 10017,
                hall -> hall.wall(0, 3));
    }

    private static void promise16ClosedToday() {
        Edges closed = FRESH.after(hall -> hall.setRoute(0, 5)).daysLater(7);
        closed.answers("16: closed", 1, hall -> hall.wall(0, 5));
        Edges open = closed.after(hall -> hall.postpone(0, 1));
        open.answers("16: open", 0, hall -> hall.wall(0, 5));
        open.answers("16: no reset today", 0, hall -> hall.endDays(1));
        open.daysLater(1).answers("16: closed then", 1, hall -> hall.wall(0, 5));
        open.daysLater(1).answers("16: the reset then", 1, hall -> hall.endDays(1));
        open.daysLater(2).answers("16: the later ones move with it", 15, hall -> hall.wall(0, 3));
        open.after(hall -> hall.undo()).answers("16: undone, closed", 1, hall -> hall.wall(0, 5));
    }

    // ---- Promise 17

    private static void promise17Days() {
        FRESH.range("17: days", Expect.ARGUMENT, 1, 60, (hall, days) -> hall.endDays(days));
        FULL.range("17: days", Expect.ARGUMENT, 1, 60, (hall, days) -> hall.endDays(days));
        EMPTY.range("17: days", Expect.ARGUMENT, 1, 60, (hall, days) -> hall.endDays(days));
        EMPTY.answers("17: nothing to archive", 0, hall -> hall.endDays(60));
        EMPTY.daysLater(1).answers("17: 1 day", 1, hall -> hall.count(6));
        EMPTY.daysLater(60).answers("17: 60 days", 60, hall -> hall.count(6));
    }

    private static void promise17LastDay() {
        FRESH.daysLater(9939).range("17: to day 9999", Expect.ARGUMENT, 1, 60,
                (hall, days) -> hall.endDays(days));
        FRESH.daysLater(9940).range("17: to day 9999", Expect.ARGUMENT, 1, 59,
                (hall, days) -> hall.endDays(days));
        FRESH.daysLater(9998).range("17: to day 9999", Expect.ARGUMENT, 1, 1,
                (hall, days) -> hall.endDays(days));
        Edges last = FRESH.daysLater(9999);
        last.answers("17: the last day", 9999, hall -> hall.count(6));
        for (int days : new int[] {-1, 0, 1, 60, 61, Integer.MAX_VALUE, Integer.MIN_VALUE}) {
            last.refused("17: not beyond it", Expect.ARGUMENT, hall -> hall.endDays(days));
        }
        last.answers("17: it can be undone", 7, hall -> hall.undo());
    }

    private static void promise17Resets() {
        Edges edges = of("wall 3 0 1;wall 3 0 60;wall 3 0 3").after(hall -> {
            for (int wall = 0; wall < 3; wall++) {
                hall.setRoute(wall, 10 + wall);
                hall.setRoute(wall, 20 + wall);
            }
        });
        edges.answers("17: day 0 has no reset", 0, hall -> hall.endDays(1));
        edges.answers("17: period 1", 2, hall -> hall.endDays(2));
        edges.answers("17: not before day 3 ends", 2, hall -> hall.endDays(3));
        edges.answers("17: period 3", 4, hall -> hall.endDays(4));
        edges.answers("17: not before day 60 ends", 4, hall -> hall.endDays(60));
        edges.daysLater(60).answers("17: closed on day 60", 1, hall -> hall.wall(1, 5));
        edges.daysLater(60).answers("17: period 60", 2, hall -> hall.endDays(1));
        edges.daysLater(60).answers("17: closed each day", 1, hall -> hall.wall(0, 5));
        Edges ended = edges.daysLater(61);
        int[][] due = {{0, 10, 1}, {0, 20, 1}, {2, 12, 3}, {2, 22, 3}, {1, 11, 60}, {1, 21, 60}};
        for (int index = 0; index < due.length; index++) {
            int at = index;
            ended.answers("17: wall", due[at][0], hall -> hall.archived(at, 0));
            ended.answers("17: grade", due[at][1], hall -> hall.archived(at, 1));
            ended.answers("17: the day that ended", due[at][2], hall -> hall.archived(at, 2));
        }
        int[] next = {61, 120, 63};
        for (int number = 0; number < next.length; number++) {
            int wall = number;
            ended.answers("17: next reset", next[wall], hall -> hall.wall(wall, 3));
        }
    }

    /** So many days at once are as good as one by one, but for the history. */
    private static void promise17ManyDaysAtOnce() {
        for (int days : new int[] {1, 2, 7, 8, 30, 59, 60}) {
            for (int portion = 0; portion < Halls.PORTIONS; portion++) {
                ClimbingHall once = Halls.full();
                ClimbingHall each = Halls.full();
                int archived = once.endDays(days);
                int sum = 0;
                for (int day = 0; day < days; day++) {
                    sum += each.endDays(1);
                }
                EXPECT.equal("17: routes", archived, sum);
                EXPECT.equal("17: all routes are gone after a reset", archived, days > 1 ? 24 : 0);
                EXPECT.equal("17: the archive keeps 30", once.count(5), 30);
                if (!Halls.portion(once, portion).equals(Halls.portion(each, portion))) {
                    EXPECT.report("17: " + days + " days at once are not as one by one");
                }
            }
        }
    }

    private static void promise17KeptHarnesses() {
        Edges lent = FRESH.after(hall -> hall.lend(0, 0));
        lent.answers("17: not yet", 0, hall -> hall.member(0, 5));
        lent.daysLater(1).answers("17: one day", 1, hall -> hall.member(0, 5));
        lent.daysLater(60).answers("17: also lapsed", 60, hall -> hall.member(0, 5));
        lent.daysLater(60).answers("17: without one", 0, hall -> hall.member(1, 5));
        lent.daysLater(1).after(hall -> hall.giveBack(0)).after(hall -> hall.endDays(60))
                .answers("17: given back", 1, hall -> hall.member(0, 5));
        Edges brief = lent.after(hall -> hall.giveBack(0)).after(hall -> hall.lend(1, 0));
        brief.daysLater(1).answers("17: given back before the end", 0, hall -> hall.member(0, 5));
        brief.daysLater(1).answers("17: at the end of the day", 1, hall -> hall.member(1, 5));
    }
}
