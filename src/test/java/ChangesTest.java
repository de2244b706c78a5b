/** Promises 6 to 17: the changes. */
public final class ChangesTest {
    private static final Expect EXPECT = new Expect("ChangesTest");

    public static void main(String[] args) {
        promise6SetRoute();
        promise6Room();
        promise6InPlaceOfTheLast();
        promise7RemoveRoute();
        promise7ArchiveKeepsThirty();
        promise8Climb();
        promise8NotAllowed();
        promise8WearByGrade();
        promise9Vote();
        promise10Lend();
        promise11GiveBack();
        promise12Check();
        promise13Enroll();
        promise13Seats();
        promise14LeaveCourse();
        promise15Finish();
        promise16Postpone();
        promise17EndDays();
        promise17SeveralWalls();
        promise17LastDay();
        EXPECT.finish();
    }

    private static void promise6SetRoute() {
        ClimbingHall hall = new ClimbingHall();
        hall.endDays(3);
        EXPECT.equal("6: first", hall.setRoute(1, 29), 0);
        EXPECT.equal("6: second", hall.setRoute(0, 0), 1);
        int[] parts = {1, 29, 3, 0, 0, 0, 0};
        for (int what = 0; what < parts.length; what++) {
            EXPECT.equal("6: part " + what, hall.route(0, what), parts[what]);
        }
        EXPECT.fails("6: wall -1", Expect.OUTSIDE, () -> hall.setRoute(-1, 30));
        EXPECT.fails("6: wall 2", Expect.OUTSIDE, () -> hall.setRoute(2, 5));
        EXPECT.fails("6: grade -1", Expect.ARGUMENT, () -> hall.setRoute(0, -1));
        EXPECT.fails("6: grade 30", Expect.ARGUMENT, () -> hall.setRoute(0, 30));
        hall.endDays(4);
        EXPECT.fails("6: closed", Expect.STATE, () -> hall.setRoute(0, 5));
        EXPECT.fails("6: grade before closed", Expect.ARGUMENT, () -> hall.setRoute(0, 30));
        EXPECT.equal("6: the other wall is open", hall.setRoute(1, 5), 2);
        hall.endDays(1);
        EXPECT.equal("6: open again", hall.setRoute(0, 5), 2);
    }

    private static void promise6Room() {
        ClimbingHall hall = Halls.of("wall 3 0 60;wall 3 0 60;wall 3 0 60;wall 3 0 60;wall 3 0 60");
        for (int route = 0; route < 5; route++) {
            EXPECT.equal("6: route on wall 0", hall.setRoute(0, route), route);
        }
        EXPECT.fails("6: the sixth of a wall", Expect.STATE, () -> hall.setRoute(0, 1));
        for (int route = 5; route < 24; route++) {
            EXPECT.equal("6: route in all", hall.setRoute(route / 5, 1), route);
        }
        EXPECT.fails("6: the 25th", Expect.STATE, () -> hall.setRoute(4, 1));
        hall.removeRoute(0);
        EXPECT.equal("6: room again", hall.setRoute(4, 1), 23);
        hall.endDays(60);
        EXPECT.equal("6: room for all", hall.endDays(1), 24);
        EXPECT.equal("6: the first again", hall.setRoute(4, 1), 0);
    }

    private static void promise6InPlaceOfTheLast() {
        ClimbingHall hall = Halls.of("wall 3 0 60;wall 3 0 60;wall 3 0 60;wall 3 0 60;wall 3 0 60;"
                + "harness 1 60;member 1 0");
        for (int route = 0; route < 24; route++) {
            hall.setRoute(route / 5, 9);
        }
        hall.lend(0, 0);
        hall.climb(0, 23);
        hall.vote(0, 23, 9);
        hall.removeRoute(23);
        hall.setRoute(4, 9);
        for (int what = 2; what < 7; what++) {
            EXPECT.equal("6: nothing is left of the old one, part " + what, hall.route(23, what), 0);
        }
        EXPECT.fails("6: nor its climbers", Expect.STATE, () -> hall.vote(0, 23, 9));
    }

    private static void promise7RemoveRoute() {
        ClimbingHall hall = new ClimbingHall();
        hall.setRoute(0, 5);
        hall.setRoute(1, 7);
        hall.setRoute(0, 9);
        hall.lend(1, 0);
        hall.climb(1, 1);
        hall.climb(1, 1);
        hall.climb(1, 2);
        hall.vote(1, 1, 20);
        hall.vote(1, 2, 3);
        EXPECT.fails("7: route -1", Expect.OUTSIDE, () -> hall.removeRoute(-1));
        EXPECT.fails("7: route 3", Expect.OUTSIDE, () -> hall.removeRoute(3));
        hall.endDays(5);
        EXPECT.equal("7: its grade, not its setter's", hall.removeRoute(1), 11);
        EXPECT.equal("7: one less", hall.count(1), 2);
        EXPECT.equal("7: those behind move up", hall.route(1, 1), 9);
        EXPECT.equal("7: with their votes", hall.voteOf(1, 1), 3);
        EXPECT.equal("7: with their climbs", hall.route(1, 4), 1);
        EXPECT.equal("7: those before stay", hall.route(0, 1), 5);
        int[] parts = {1, 11, 5, 2};
        for (int what = 0; what < parts.length; what++) {
            EXPECT.equal("7: archived " + what, hall.archived(0, what), parts[what]);
        }
        hall.endDays(2);
        EXPECT.equal("7: also on a closed wall", hall.removeRoute(0), 5);
        EXPECT.equal("7: the later one is behind", hall.archived(1, 1), 5);
        EXPECT.equal("7: the member keeps its climbs", hall.member(1, 2), 3);
        hall.endDays(1);
        EXPECT.equal("7: the last one", hall.count(1), 0);
        hall.setRoute(0, 4);
        EXPECT.fails("7: a new route has no votes", Expect.NO_ELEMENT, () -> hall.voteOf(1, 0));
        EXPECT.fails("7: nor climbs", Expect.STATE, () -> hall.vote(1, 0, 4));
    }

    private static void promise7ArchiveKeepsThirty() {
        ClimbingHall hall = new ClimbingHall();
        for (int i = 0; i < 30; i++) {
            hall.setRoute(0, i % 30);
            hall.removeRoute(0);
        }
        EXPECT.equal("7: thirty", hall.count(5), 30);
        EXPECT.equal("7: the oldest", hall.archived(0, 1), 0);
        hall.setRoute(1, 17);
        EXPECT.equal("7: one too many", hall.removeRoute(0), 17);
        EXPECT.equal("7: thirty still", hall.count(5), 30);
        EXPECT.equal("7: the oldest is gone", hall.archived(0, 1), 1);
        EXPECT.equal("7: the latest", hall.archived(29, 1), 17);
        EXPECT.equal("7: its wall", hall.archived(29, 0), 1);
    }

    private static void promise8Climb() {
        ClimbingHall hall = new ClimbingHall();
        hall.setRoute(0, 9);
        hall.setRoute(1, 10);
        hall.setRoute(1, 20);
        hall.lend(1, 1);
        EXPECT.equal("8: grade 9", hall.climb(1, 0), 1);
        EXPECT.equal("8: grade 10", hall.climb(1, 1), 2);
        EXPECT.equal("8: grade 20", hall.climb(1, 2), 3);
        EXPECT.equal("8: adds up", hall.climb(1, 2), 6);
        EXPECT.equal("8: wear", hall.route(2, 3), 6);
        EXPECT.equal("8: climbs of the route", hall.route(2, 4), 2);
        EXPECT.equal("8: climbs of the member", hall.member(1, 2), 4);
        EXPECT.equal("8: not of the other", hall.member(0, 2), 0);
        EXPECT.fails("8: member -1", Expect.OUTSIDE, () -> hall.climb(-1, 0));
        EXPECT.fails("8: member 2", Expect.OUTSIDE, () -> hall.climb(2, 0));
        EXPECT.fails("8: route -1", Expect.OUTSIDE, () -> hall.climb(0, -1));
        EXPECT.fails("8: route 3", Expect.OUTSIDE, () -> hall.climb(0, 3));
    }

    private static void promise8NotAllowed() {
        ClimbingHall hall = Halls.of("rules 20 2 3;wall 9 0 3;wall 9 2 50;harness 1 5;harness 1 60;"
                + "member 1 1;member 1 2;member 1 3");
        hall.setRoute(0, 5);
        hall.setRoute(1, 5);
        EXPECT.fails("8: no harness", Expect.STATE, () -> hall.climb(0, 0));
        hall.lend(0, 0);
        EXPECT.fails("8: level too low", Expect.STATE, () -> hall.climb(0, 1));
        hall.lend(1, 1);
        EXPECT.equal("8: level just right", hall.climb(1, 1), 1);
        hall.giveBack(1);
        hall.lend(2, 1);
        EXPECT.equal("8: level higher", hall.climb(2, 1), 2);
        EXPECT.equal("8: up to WEAR", hall.climb(2, 1), 3);
        EXPECT.fails("8: worn", Expect.STATE, () -> hall.climb(2, 1));
        hall.endDays(3);
        EXPECT.fails("8: closed", Expect.STATE, () -> hall.climb(0, 0));
        hall.postpone(0, 10);
        EXPECT.equal("8: open when postponed", hall.climb(0, 0), 1);
        hall.endDays(1);
        EXPECT.equal("8: the last day of the check", hall.climb(0, 0), 2);
        hall.endDays(1);
        EXPECT.fails("8: the check lapsed", Expect.STATE, () -> hall.climb(0, 0));
        EXPECT.equal("8: another check is in force", hall.climb(2, 0), 3);
    }

    private static void promise8WearByGrade() {
        ClimbingHall hall = Halls.withVotes("rules 0 0 50;", 29, 4);
        EXPECT.equal("8: by the grade, not by its setter's", hall.climb(0, 0), 4);
    }

    private static void promise9Vote() {
        ClimbingHall hall = new ClimbingHall();
        hall.setRoute(0, 12);
        hall.setRoute(0, 12);
        EXPECT.fails("9: not climbed", Expect.STATE, () -> hall.vote(0, 0, 3));
        hall.lend(0, 0);
        hall.climb(0, 0);
        EXPECT.equal("9: a vote", hall.vote(0, 0, 16), 13);
        EXPECT.equal("9: in place of the earlier one", hall.vote(0, 0, 0), 8);
        EXPECT.equal("9: one vote", hall.route(0, 5), 1);
        EXPECT.equal("9: this one", hall.voteOf(0, 0), 0);
        EXPECT.equal("9: the greatest", hall.vote(0, 0, 29), 18);
        EXPECT.fails("9: another route", Expect.STATE, () -> hall.vote(0, 1, 3));
        EXPECT.fails("9: another member", Expect.STATE, () -> hall.vote(1, 0, 3));
        EXPECT.fails("9: grade 30", Expect.ARGUMENT, () -> hall.vote(1, 0, 30));
        EXPECT.fails("9: grade -1", Expect.ARGUMENT, () -> hall.vote(0, 0, -1));
        EXPECT.fails("9: route first", Expect.OUTSIDE, () -> hall.vote(0, 2, 30));
        EXPECT.fails("9: route -1", Expect.OUTSIDE, () -> hall.vote(0, -1, 3));
        EXPECT.fails("9: member first", Expect.OUTSIDE, () -> hall.vote(2, 0, 30));
        EXPECT.fails("9: member -1", Expect.OUTSIDE, () -> hall.vote(-1, 0, 3));
        hall.giveBack(0);
        hall.endDays(7);
        EXPECT.equal("9: on a closed wall, without a harness", hall.vote(0, 0, 12), 12);
    }

    private static void promise10Lend() {
        ClimbingHall hall = Halls.of("harness 1 5;harness 1 9;harness 2 9;member 1 0;member 1 0;"
                + "member 2 0");
        EXPECT.fails("10: member -1", Expect.OUTSIDE, () -> hall.lend(-1, 0));
        EXPECT.fails("10: member 3", Expect.OUTSIDE, () -> hall.lend(3, 0));
        EXPECT.fails("10: harness -1", Expect.OUTSIDE, () -> hall.lend(0, -1));
        EXPECT.fails("10: harness 3", Expect.OUTSIDE, () -> hall.lend(0, 3));
        EXPECT.fails("10: sizes", Expect.STATE, () -> hall.lend(0, 2));
        EXPECT.equal("10: the day of the lapse", hall.lend(0, 0), 5);
        EXPECT.fails("10: has one", Expect.STATE, () -> hall.lend(0, 1));
        EXPECT.fails("10: is lent", Expect.STATE, () -> hall.lend(1, 0));
        EXPECT.equal("10: the member has it", hall.member(0, 3), 0);
        EXPECT.equal("10: it is lent", hall.harness(0, 4), 1);
        hall.giveBack(0);
        hall.endDays(4);
        EXPECT.equal("10: the last day in force", hall.lend(1, 0), 5);
        hall.endDays(1);
        EXPECT.equal("10: stays lent", hall.member(1, 3), 0);
        hall.giveBack(1);
        EXPECT.fails("10: lapsed", Expect.STATE, () -> hall.lend(1, 0));
        hall.check(1, false);
        EXPECT.fails("10: retired", Expect.STATE, () -> hall.lend(1, 1));
        hall.check(2, true);
        EXPECT.equal("10: by the latest check", hall.lend(2, 2), 14);
    }

    private static void promise11GiveBack() {
        ClimbingHall hall = new ClimbingHall();
        EXPECT.fails("11: member -1", Expect.OUTSIDE, () -> hall.giveBack(-1));
        EXPECT.fails("11: member 2", Expect.OUTSIDE, () -> hall.giveBack(2));
        EXPECT.fails("11: none", Expect.STATE, () -> hall.giveBack(0));
        hall.lend(0, 1);
        EXPECT.fails("11: the other has none", Expect.STATE, () -> hall.giveBack(1));
        EXPECT.equal("11: its number", hall.giveBack(0), 1);
        EXPECT.equal("11: the member has none", hall.member(0, 3), -1);
        EXPECT.equal("11: it is free", hall.harness(1, 4), 0);
        EXPECT.fails("11: twice", Expect.STATE, () -> hall.giveBack(0));
        hall.lend(1, 0);
        hall.endDays(40);
        EXPECT.equal("11: also when its check lapsed", hall.giveBack(1), 0);
    }

    private static void promise12Check() {
        ClimbingHall hall = new ClimbingHall();
        EXPECT.fails("12: harness -1", Expect.OUTSIDE, () -> hall.check(-1, true));
        EXPECT.fails("12: harness 2", Expect.OUTSIDE, () -> hall.check(2, true));
        hall.lend(0, 0);
        EXPECT.fails("12: lent", Expect.STATE, () -> hall.check(0, true));
        hall.giveBack(0);
        hall.endDays(35);
        EXPECT.equal("12: lapsed", hall.harness(0, 5), 0);
        EXPECT.equal("12: good", hall.check(0, true), 65);
        EXPECT.equal("12: in force again", hall.harness(0, 5), 1);
        EXPECT.equal("12: the day", hall.harness(0, 2), 35);
        EXPECT.equal("12: not good", hall.check(1, false), -1);
        EXPECT.equal("12: the latest check, too", hall.harness(1, 2), 35);
        EXPECT.equal("12: retired", hall.harness(1, 4), 2);
        EXPECT.equal("12: no check in force", hall.harness(1, 5), 0);
        EXPECT.fails("12: for ever", Expect.STATE, () -> hall.check(1, true));
        EXPECT.fails("12: not twice", Expect.STATE, () -> hall.check(1, false));
    }

    private static ClimbingHall forCourses() {
        ClimbingHall hall = Halls.of("wall 9 0 60;harness 0 365;member 0 0;member 0 0;member 0 1;"
                + "course 1 2 1;course 2 1 0;course 1 1 0;course 1 3 3");
        hall.setRoute(0, 1);
        hall.lend(0, 0);
        hall.climb(0, 0);
        return hall;
    }

    private static void promise13Enroll() {
        ClimbingHall hall = forCourses();
        EXPECT.fails("13: member -1", Expect.OUTSIDE, () -> hall.enroll(-1, 0));
        EXPECT.fails("13: member 3", Expect.OUTSIDE, () -> hall.enroll(3, 0));
        EXPECT.fails("13: course -1", Expect.OUTSIDE, () -> hall.enroll(0, -1));
        EXPECT.fails("13: course 4", Expect.OUTSIDE, () -> hall.enroll(0, 4));
        EXPECT.fails("13: level too low", Expect.STATE, () -> hall.enroll(0, 1));
        EXPECT.fails("13: level too high", Expect.STATE, () -> hall.enroll(2, 2));
        EXPECT.fails("13: too few climbs", Expect.STATE, () -> hall.enroll(1, 0));
        EXPECT.fails("13: climbs of another", Expect.STATE, () -> hall.enroll(0, 3));
        EXPECT.equal("13: just enough climbs", hall.enroll(0, 0), 1);
        EXPECT.equal("13: the course", hall.member(0, 4), 0);
        EXPECT.fails("13: is in one", Expect.STATE, () -> hall.enroll(0, 2));
        EXPECT.fails("13: is in this one", Expect.STATE, () -> hall.enroll(0, 0));
        EXPECT.equal("13: level 1 to course 2", hall.enroll(2, 1), 1);
    }

    private static void promise13Seats() {
        ClimbingHall hall = Halls.of("course 3 2 0;member 1 2;member 1 2;member 1 2");
        EXPECT.equal("13: first", hall.enroll(2, 0), 1);
        EXPECT.equal("13: second", hall.enroll(0, 0), 2);
        EXPECT.fails("13: no seat", Expect.STATE, () -> hall.enroll(1, 0));
        hall.leaveCourse(2);
        EXPECT.equal("13: a seat again", hall.enroll(1, 0), 2);
        EXPECT.equal("13: the members", hall.course(0, 3), 0b011);
    }

    private static void promise14LeaveCourse() {
        ClimbingHall hall = forCourses();
        EXPECT.fails("14: member -1", Expect.OUTSIDE, () -> hall.leaveCourse(-1));
        EXPECT.fails("14: member 3", Expect.OUTSIDE, () -> hall.leaveCourse(3));
        EXPECT.fails("14: in none", Expect.STATE, () -> hall.leaveCourse(0));
        hall.enroll(0, 2);
        EXPECT.equal("14: its number", hall.leaveCourse(0), 2);
        EXPECT.equal("14: in none now", hall.member(0, 4), -1);
        EXPECT.equal("14: nobody is in it", hall.course(2, 3), 0);
        EXPECT.equal("14: the level stays", hall.member(0, 1), 0);
        EXPECT.fails("14: twice", Expect.STATE, () -> hall.leaveCourse(0));
    }

    private static void promise15Finish() {
        ClimbingHall hall = Halls.of("course 1 12 0;course 1 12 0;member 1 0;member 1 0;member 1 0;"
                + "member 1 0;member 1 3");
        EXPECT.fails("15: course -1", Expect.OUTSIDE, () -> hall.finish(-1, 0));
        EXPECT.fails("15: course 2", Expect.OUTSIDE, () -> hall.finish(2, 0));
        EXPECT.equal("15: nobody in it", hall.finish(0, -1), 0);
        EXPECT.equal("15: the levels stay", hall.member(4, 1), 3);
        hall.enroll(0, 0);
        hall.enroll(2, 0);
        hall.enroll(3, 0);
        hall.enroll(1, 1);
        EXPECT.equal("15: two passed", hall.finish(0, 0b11011 | 1 << 31), 2);
        int[] levels = {1, 0, 0, 1, 3};
        for (int member = 0; member < levels.length; member++) {
            EXPECT.equal("15: level " + member, hall.member(member, 1), levels[member]);
        }
        EXPECT.equal("15: passed", hall.member(0, 4), -1);
        EXPECT.equal("15: failed, but out of it", hall.member(2, 4), -1);
        EXPECT.equal("15: the other course goes on", hall.member(1, 4), 1);
        EXPECT.equal("15: empty", hall.course(0, 3), 0);
        EXPECT.equal("15: nobody passed", hall.finish(1, 0b11101), 0);
    }

    private static void promise16Postpone() {
        ClimbingHall hall = new ClimbingHall();
        EXPECT.fails("16: wall -1", Expect.OUTSIDE, () -> hall.postpone(-1, 0));
        EXPECT.fails("16: wall 2", Expect.OUTSIDE, () -> hall.postpone(2, 15));
        EXPECT.fails("16: 0 days", Expect.ARGUMENT, () -> hall.postpone(0, 0));
        EXPECT.fails("16: 15 days", Expect.ARGUMENT, () -> hall.postpone(0, 15));
        EXPECT.equal("16: 1 day", hall.postpone(0, 1), 8);
        EXPECT.equal("16: 14 days", hall.postpone(0, 14), 22);
        EXPECT.equal("16: the other stays", hall.wall(1, 3), 10);
        hall.setRoute(1, 3);
        hall.endDays(10);
        EXPECT.equal("16: closed", hall.wall(1, 5), 1);
        EXPECT.equal("16: today's reset", hall.postpone(1, 2), 12);
        EXPECT.equal("16: open then", hall.wall(1, 5), 0);
        EXPECT.equal("16: no reset today", hall.endDays(1), 0);
        EXPECT.equal("16: but later", hall.endDays(2), 1);
        EXPECT.equal("16: the later ones move with it", hall.wall(1, 3), 22);
    }

    private static void promise17EndDays() {
        ClimbingHall hall = new ClimbingHall();
        EXPECT.fails("17: 0 days", Expect.ARGUMENT, () -> hall.endDays(0));
        EXPECT.fails("17: 61 days", Expect.ARGUMENT, () -> hall.endDays(61));
        EXPECT.fails("17: least int", Expect.ARGUMENT, () -> hall.endDays(Integer.MIN_VALUE));
        EXPECT.fails("17: greatest int", Expect.ARGUMENT, () -> hall.endDays(Integer.MAX_VALUE));
        hall.setRoute(0, 1);
        hall.setRoute(1, 2);
        hall.setRoute(0, 3);
        hall.lend(1, 0);
        EXPECT.equal("17: up to the reset", hall.endDays(7), 0);
        EXPECT.equal("17: the routes are still there", hall.count(1), 3);
        EXPECT.equal("17: the reset", hall.endDays(1), 2);
        EXPECT.equal("17: the day", hall.count(6), 8);
        EXPECT.equal("17: the next reset", hall.wall(0, 3), 14);
        EXPECT.equal("17: the other wall's stays", hall.count(1), 1);
        EXPECT.equal("17: by number", hall.archived(0, 1), 1);
        EXPECT.equal("17: by number", hall.archived(1, 1), 3);
        EXPECT.equal("17: on the day of the reset", hall.archived(1, 2), 7);
        EXPECT.equal("17: kept harnesses", hall.member(1, 5), 8);
        EXPECT.equal("17: without one", hall.member(0, 5), 0);
        hall.giveBack(1);
        EXPECT.equal("17: 60 days", hall.endDays(60), 1);
        EXPECT.equal("17: not kept any more", hall.member(1, 5), 8);
        EXPECT.equal("17: many periods", hall.wall(0, 3), 70);
        EXPECT.equal("17: many periods", hall.wall(1, 3), 70);
    }

    private static void promise17SeveralWalls() {
        StringBuilder text = new StringBuilder("wall 9 0 2");
        for (int i = 1; i < 5; i++) {
            text.append(";wall 9 0 2");
        }
        ClimbingHall hall = Halls.of(text.toString());
        for (int route = 0; route < 20; route++) {
            hall.setRoute(4 - route % 5, route);
        }
        EXPECT.equal("17: all walls", hall.endDays(3), 20);
        EXPECT.equal("17: by wall first", hall.archived(0, 1), 4);
        EXPECT.equal("17: then by route", hall.archived(1, 1), 9);
        EXPECT.equal("17: the next wall", hall.archived(4, 1), 3);
        EXPECT.equal("17: the last one", hall.archived(19, 1), 15);
        for (int route = 0; route < 20; route++) {
            hall.setRoute(route % 5, 29);
        }
        EXPECT.equal("17: also those that are not kept", hall.endDays(2), 20);
        EXPECT.equal("17: thirty", hall.count(5), 30);
        EXPECT.equal("17: the oldest ten are gone", hall.archived(0, 1), 12);
    }

    private static void promise17LastDay() {
        ClimbingHall hall = Halls.of("wall 9 0 60;member 0 0");
        for (int i = 0; i < 166; i++) {
            hall.endDays(60);
        }
        EXPECT.equal("17: day", hall.count(6), 9960);
        EXPECT.fails("17: 10000", Expect.ARGUMENT, () -> hall.endDays(40));
        EXPECT.equal("17: nothing ended", hall.count(6), 9960);
        EXPECT.equal("17: 9999", hall.endDays(39), 0);
        EXPECT.equal("17: day", hall.count(6), 9999);
        EXPECT.fails("17: one more", Expect.ARGUMENT, () -> hall.endDays(1));
    }
}
