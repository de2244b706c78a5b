/** Promises 30 to 38: grades by votes (section 3). */
public final class GradesTest {
    private static final Expect EXPECT = new Expect("GradesTest");

    public static void main(String[] args) {
        promise30Grade();
        promise30Trimmed();
        promise31MeanGrade();
        promise32VoteOf();
        promise33GradeWith();
        promise34VotesTo();
        promise35Disputed();
        promise36Hardest();
        promise37ClimbsLeft();
        promise38AverageGrade();
        EXPECT.finish();
    }

    private static void expectRoute(String what, ClimbingHall hall,
            java.util.function.IntUnaryOperator call) {
        EXPECT.fails(what + " -1", Expect.OUTSIDE, () -> call.applyAsInt(-1));
        EXPECT.fails(what + " behind", Expect.OUTSIDE, () -> call.applyAsInt(hall.count(1)));
    }

    private static void promise30Grade() {
        ClimbingHall hall = Halls.withVotes("", 12);
        EXPECT.equal("30: its setter's alone", hall.grade(0), 12);
        expectRoute("30: route", hall, hall::grade);
        EXPECT.equal("30: nobody's but its setter's", Halls.withVotes("rules 0 0 9;", 12).grade(0), 12);
        EXPECT.equal("30: votes alone", Halls.withVotes("rules 0 0 9;", 12, 29).grade(0), 29);
        EXPECT.equal("30: half up", Halls.withVotes("rules 0 0 9;", 0, 4, 5).grade(0), 5);
        EXPECT.equal("30: below half", Halls.withVotes("rules 0 0 9;", 0, 4, 4, 5).grade(0), 4);
        EXPECT.equal("30: above half", Halls.withVotes("rules 0 0 9;", 0, 5, 4, 5).grade(0), 5);
        EXPECT.equal("30: its setter counts twice", Halls.withVotes("", 12, 18).grade(0), 14);
        EXPECT.equal("30: ten times", Halls.withVotes("rules 0 10 9;", 0, 22).grade(0), 2);
        ClimbingHall all = Halls.withVotes("rules 0 0 50;", 0,
                29, 29, 29, 29, 29, 29, 29, 29, 29, 29, 29, 29);
        EXPECT.equal("30: twelve members", all.grade(0), 29);
        EXPECT.equal("24: twelve votes", all.route(0, 5), 12);
        all.setRoute(0, 1);
        all.climb(0, 1);
        all.climb(11, 1);
        all.vote(0, 1, 28);
        all.vote(11, 1, 29);
        EXPECT.equal("35: twelve votes alike", all.disputed(), 1);
        EXPECT.equal("30: least", Halls.withVotes("", 0, 0).grade(0), 0);
        EXPECT.equal("30: greatest", Halls.withVotes("", 29, 29).grade(0), 29);
    }

    private static void promise30Trimmed() {
        EXPECT.equal("30: four of 20 percent keep all",
                Halls.withVotes("rules 20 0 50;", 0, 0, 0, 0, 20).grade(0), 5);
        EXPECT.equal("30: five drop one at each end",
                Halls.withVotes("rules 20 0 50;", 0, 9, 1, 0, 20, 29).grade(0), 10);
        EXPECT.equal("30: equal ones are dropped one by one",
                Halls.withVotes("rules 20 0 50;", 0, 29, 29, 29, 0, 0).grade(0), 19);
        EXPECT.equal("30: 40 percent of five leave one",
                Halls.withVotes("rules 40 0 50;", 0, 29, 29, 7, 0, 1).grade(0), 7);
        EXPECT.equal("30: 40 percent of three",
                Halls.withVotes("rules 40 0 50;", 0, 0, 9, 29).grade(0), 9);
        EXPECT.equal("30: 0 percent", Halls.withVotes("rules 0 0 50;", 0, 0, 0, 29).grade(0), 10);
        EXPECT.equal("30: its setter's are dropped, too",
                Halls.withVotes("rules 40 2 50;", 29, 0, 1, 2).grade(0), 2);
    }

    private static void expectMean(String what, ClimbingHall hall, int numerator, int denominator) {
        EXPECT.equal(what + " numerator", hall.meanGrade(0, false), numerator);
        EXPECT.equal(what + " denominator", hall.meanGrade(0, true), denominator);
    }

    private static void promise31MeanGrade() {
        expectMean("31: whole", Halls.withVotes("", 12), 12, 1);
        expectMean("31: none", Halls.withVotes("", 0), 0, 1);
        expectMean("31: third", Halls.withVotes("", 12, 16), 40, 3);
        expectMean("31: lowest terms", Halls.withVotes("rules 0 0 9;", 0, 1, 2, 2, 1), 3, 2);
        expectMean("31: two thirds", Halls.withVotes("rules 0 0 9;", 0, 1, 1, 1, 1, 0, 0), 2, 3);
        expectMean("31: trimmed", Halls.withVotes("rules 20 0 9;", 0, 0, 3, 4, 4, 29), 11, 3);
        expectMean("31: all zero", Halls.withVotes("rules 0 0 9;", 9, 0, 0, 0), 0, 1);
        ClimbingHall hall = Halls.withVotes("", 12, 16);
        expectRoute("31: route", hall, route -> hall.meanGrade(route, true));
        expectRoute("31: route", hall, route -> hall.meanGrade(route, false));
    }

    private static void promise32VoteOf() {
        ClimbingHall hall = Halls.withVotes("", 12, 16, 0);
        EXPECT.equal("32: a vote", hall.voteOf(0, 0), 16);
        EXPECT.equal("32: of grade 0", hall.voteOf(1, 0), 0);
        hall.setRoute(0, 4);
        hall.climb(1, 1);
        EXPECT.fails("32: climbed only", Expect.NO_ELEMENT, () -> hall.voteOf(1, 1));
        expectRoute("32: route", hall, route -> hall.voteOf(0, route));
        EXPECT.fails("32: member -1", Expect.OUTSIDE, () -> hall.voteOf(-1, 1));
        EXPECT.fails("32: member 2", Expect.OUTSIDE, () -> hall.voteOf(2, 0));
    }

    private static void promise33GradeWith() {
        ClimbingHall hall = Halls.withVotes("", 12, 16, 20);
        EXPECT.equal("33: one more", hall.gradeWith(0, 20, 1), 16);
        EXPECT.equal("33: twenty more", hall.gradeWith(0, 29, 20), 29);
        EXPECT.equal("33: down", hall.gradeWith(0, 0, 2), 10);
        EXPECT.equal("33: nothing was changed", hall.grade(0), 15);
        EXPECT.equal("33: nor counted", hall.undoCount(), 7);
        EXPECT.fails("33: grade -1", Expect.ARGUMENT, () -> hall.gradeWith(0, -1, 1));
        EXPECT.fails("33: grade 30", Expect.ARGUMENT, () -> hall.gradeWith(0, 30, 1));
        EXPECT.fails("33: votes 0", Expect.ARGUMENT, () -> hall.gradeWith(0, 1, 0));
        EXPECT.fails("33: votes 21", Expect.ARGUMENT, () -> hall.gradeWith(0, 1, 21));
        expectRoute("33: route", hall, route -> hall.gradeWith(route, 30, 0));
        EXPECT.equal("33: its setter's alone does not count then",
                Halls.withVotes("rules 0 0 9;", 3).gradeWith(0, 9, 1), 9);
    }

    private static void promise34VotesTo() {
        ClimbingHall hall = Halls.withVotes("", 12, 16, 20);
        EXPECT.equal("34: has it", hall.votesTo(0, 15), 0);
        EXPECT.equal("34: one step", hall.votesTo(0, 16), 6);
        EXPECT.equal("34: down", hall.votesTo(0, 14), 1);
        EXPECT.equal("34: far", hall.votesTo(0, 29), 16);
        EXPECT.fails("34: grade -1", Expect.ARGUMENT, () -> hall.votesTo(0, -1));
        EXPECT.fails("34: grade 30", Expect.ARGUMENT, () -> hall.votesTo(0, 30));
        expectRoute("34: route", hall, route -> hall.votesTo(route, 30));
        ClimbingHall slow = Halls.withVotes("rules 0 10 9;", 0);
        EXPECT.equal("34: far too many", slow.votesTo(0, 0), 0);
        EXPECT.equal("34: half of it", slow.votesTo(0, 1), 10);
        EXPECT.fails("34: 20 do not suffice", Expect.NO_ELEMENT, () -> slow.votesTo(0, 2));
        ClimbingHall just = Halls.withVotes("rules 5 10 9;", 0);
        EXPECT.equal("34: dropping helps", just.votesTo(0, 1), 10);
        ClimbingHall twenty = Halls.withVotes("rules 34 10 9;", 0);
        EXPECT.equal("34: 20 suffice", twenty.votesTo(0, 29), 20);
    }

    private static void promise35Disputed() {
        ClimbingHall hall = Halls.withVotes("", 12, 16, 16);
        EXPECT.equal("35: a difference of 0", hall.disputed(), 0);
        hall.setRoute(0, 3);
        hall.setRoute(0, 29);
        for (int route = 1; route < 3; route++) {
            hall.climb(0, route);
            hall.climb(1, route);
            hall.vote(1, route, 10);
        }
        EXPECT.equal("35: one vote is not enough", hall.disputed(), 0);
        hall.vote(0, 2, 7);
        EXPECT.equal("35: the greatest", hall.disputed(), 2);
        hall.vote(0, 1, 13);
        EXPECT.equal("35: the lowest number of several", hall.disputed(), 1);
        hall.vote(0, 2, 6);
        EXPECT.equal("35: one more", hall.disputed(), 2);
        ClimbingHall three = Halls.withVotes("", 12, 9, 0, 5);
        three.setRoute(0, 3);
        three.climb(0, 1);
        three.climb(2, 1);
        three.vote(0, 1, 0);
        three.vote(2, 1, 8);
        EXPECT.equal("35: any two of three", three.disputed(), 0);
        ClimbingHall one = Halls.withVotes("", 12, 29);
        ClimbingHall low = Halls.withVotes("", 12, 0, 0);
        low.setRoute(0, 3);
        Halls.climb(low, 0, 1, 1);
        Halls.climb(low, 1, 1, 1);
        low.vote(0, 1, 29);
        low.vote(1, 1, 28);
        EXPECT.equal("35: by the difference alone", low.disputed(), 1);
        EXPECT.fails("35: one vote", Expect.NO_ELEMENT, () -> one.disputed());
        EXPECT.fails("35: no routes", Expect.NO_ELEMENT, () -> new ClimbingHall().disputed());
    }

    private static void promise36Hardest() {
        ClimbingHall hall = new ClimbingHall();
        EXPECT.fails("36: wall -1", Expect.OUTSIDE, () -> hall.hardest(-1));
        EXPECT.fails("36: wall 2", Expect.OUTSIDE, () -> hall.hardest(2));
        hall.setRoute(1, 29);
        EXPECT.fails("36: no route", Expect.NO_ELEMENT, () -> hall.hardest(0));
        hall.setRoute(0, 0);
        EXPECT.equal("36: of this wall", hall.hardest(0), 1);
        hall.setRoute(0, 8);
        hall.setRoute(0, 10);
        hall.setRoute(0, 10);
        EXPECT.equal("36: the lowest number of several", hall.hardest(0), 3);
        hall.lend(0, 0);
        hall.climb(0, 2);
        hall.vote(0, 2, 29);
        EXPECT.equal("36: by the votes", hall.hardest(0), 2);
        EXPECT.equal("36: of the other wall", hall.hardest(1), 0);
    }

    private static void promise37ClimbsLeft() {
        ClimbingHall hall = Halls.withVotes("rules 0 0 7;", 29, 15);
        EXPECT.equal("37: rounded up", hall.climbsLeft(0), 2);
        hall.climb(0, 0);
        EXPECT.equal("37: one", hall.climbsLeft(0), 1);
        hall.climb(0, 0);
        EXPECT.equal("37: worn", hall.climbsLeft(0), 0);
        EXPECT.equal("37: WEAR 1", Halls.withVotes("rules 0 0 1;", 29).climbsLeft(0), 1);
        ClimbingHall beyond = Halls.withVotes("rules 0 0 4;", 29, 29);
        beyond.climb(0, 0);
        EXPECT.equal("37: beyond WEAR", beyond.route(0, 3), 6);
        beyond.vote(0, 0, 0);
        EXPECT.equal("37: worn, though a climb would take less now", beyond.climbsLeft(0), 0);
        expectRoute("37: route", hall, hall::climbsLeft);
        hall.setRoute(0, 9);
        hall.setRoute(0, 29);
        EXPECT.equal("37: grade 9", hall.climbsLeft(1), 7);
        EXPECT.equal("37: grade 29", hall.climbsLeft(2), 3);
    }

    private static void promise38AverageGrade() {
        ClimbingHall hall = Halls.withVotes("", 12, 16);
        EXPECT.equal("38: one", hall.averageGrade(), 13);
        hall.setRoute(0, 4);
        EXPECT.equal("38: two", hall.averageGrade(), 8.5);
        hall.setRoute(0, 3);
        EXPECT.equal("38: three", hall.averageGrade(), 20.0 / 3);
        EXPECT.fails("38: none", Expect.NO_ELEMENT, () -> new ClimbingHall().averageGrade());
    }
}
