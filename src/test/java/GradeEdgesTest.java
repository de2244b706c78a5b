import java.util.Arrays;

/** The edges of promises 30 to 38 and of section 3: grades by votes. */
public final class GradeEdgesTest {
    private static final Expect EXPECT = new Expect("GradeEdgesTest");
    private static final Edges FRESH = new Edges(EXPECT, ClimbingHall::new);
    private static final Edges FULL = new Edges(EXPECT, Halls::full);
    private static final Edges EMPTY = new Edges(EXPECT, () -> Halls.of("rules 20 2 50"));

    public static void main(String[] args) {
        promise30Numbers();
        promise30EmptyBallot();
        promise30Setter();
        promise30HowManyAreDropped();
        promise30LargestBallot();
        promise30Nearest();
        promise31LowestTerms();
        promise31Numbers();
        promise32VoteOf();
        promise33Numbers();
        promise33OtherPeople();
        promise34Numbers();
        promise34Least();
        promise34TwentyVotes();
        promise35Disputed();
        promise36Numbers();
        promise36Several();
        promise37ClimbsLeft();
        promise37AsManyClimbs();
        promise38AverageGrade();
        EXPECT.finish();
    }

    /** A hall with one route of a grade and these votes for it. */
    private static Edges voted(String rules, int grade, int... votes) {
        return new Edges(EXPECT, () -> Halls.withVotes(rules, grade, votes));
    }

    private static int[] copies(int number, int grade) {
        int[] all = new int[number];
        Arrays.fill(all, grade);
        return all;
    }

    // ---- Promise 30

    private static void promise30Numbers() {
        FULL.rows("30: route", 24, (hall, route) -> hall.grade(route));
        EMPTY.refused("30: no routes", Expect.OUTSIDE, hall -> hall.grade(0));
        FULL.answers("30: the first", 0, hall -> hall.grade(0));
        FULL.answers("30: the last but one", 22, hall -> hall.grade(22));
        FULL.answers("30: the last, by its votes", 12, hall -> hall.grade(23));
        FULL.changesNothing("30: grade", hall -> hall.grade(23));
    }

    private static void promise30EmptyBallot() {
        for (int grade = 0; grade <= 29; grade++) {
            voted("rules 40 0 1;", grade).answers("30: its setter's alone", grade,
                    hall -> hall.grade(0));
            voted("rules 40 0 9;", 29 - grade, grade).answers("30: the vote alone", grade,
                    hall -> hall.grade(0));
        }
        voted("rules 0 0 9;", 3, 20).after(hall -> hall.undo()).answers("30: the vote undone", 3,
                hall -> hall.grade(0));
        voted("rules 0 1 9;", 3, 20).answers("30: a ballot that is not empty", 12,
                hall -> hall.grade(0));
    }

    private static void promise30Setter() {
        for (int setter = 0; setter <= 10; setter++) {
            Edges edges = voted("rules 0 " + setter + " 9;", 0, 29);
            int times = setter;
            edges.answers("30: SETTER " + setter, setter == 0 ? 29 : 29 / gcd(29, 1 + setter),
                    hall -> hall.meanGrade(0, false));
            edges.answers("30: SETTER " + setter, 1 + times, hall -> hall.meanGrade(0, true));
        }
    }

    private static int gcd(int a, int b) {
        return b == 0 ? a : gcd(b, a % b);
    }

    /** The greatest of n grades is dropped as soon as n * TRIM / 100, rounded down, is 1. */
    private static void promise30HowManyAreDropped() {
        int[] trims = {9, 10, 11, 12, 13, 15, 17, 20, 25, 33, 34, 40};
        int[] first = {12, 10, 10, 9, 8, 7, 6, 5, 4, 4, 3, 3};
        for (int i = 0; i < trims.length; i++) {
            String rules = "rules " + trims[i] + " 0 50;";
            for (int number = first[i] - 1; number <= first[i]; number++) {
                int[] votes = copies(number, 0);
                votes[number / 2] = 29;
                boolean dropped = number == first[i];
                voted(rules, 29, votes).answers("30: TRIM " + trims[i] + " of " + number,
                        dropped ? 0 : 29, hall -> hall.meanGrade(0, false));
                for (int vote = 0; vote < number; vote++) {
                    votes[vote] = 29 - votes[vote];
                }
                voted(rules, 0, votes).answers("30: the least, TRIM " + trims[i], dropped ? 29 : number,
                        hall -> dropped ? hall.grade(0) : hall.meanGrade(0, true));
            }
        }
        // 1.98 and 2 at each end of 6 and 5 grades.
        voted("rules 33 0 50;", 9, 0, 0, 0, 29, 29, 29).answers("30: 1 of 6", 15,
                hall -> hall.grade(0));
        voted("rules 33 0 50;", 9, 0, 0, 9, 29, 29, 29).answers("30: 33 percent of 6 are 1", 67,
                hall -> hall.meanGrade(0, false));
        voted("rules 34 0 50;", 9, 0, 0, 9, 29, 29, 29).answers("30: 34 percent of 6 are 2", 19,
                hall -> hall.meanGrade(0, false));
        voted("rules 40 0 50;", 9, 0, 3, 9, 29, 29).answers("30: 40 percent of 5 are 2", 9,
                hall -> hall.meanGrade(0, false));
        voted("rules 39 0 50;", 9, 0, 3, 9, 29, 29).answers("30: 39 percent of 5 are 1", 41,
                hall -> hall.meanGrade(0, false));
    }

    /** 12 votes, 10 of the setter and 20 more: of 42 grades 16 are dropped at each end. */
    private static void promise30LargestBallot() {
        voted("rules 40 10 200;", 0, copies(12, 10)).answers("30: six of 10, four of 29", 18,
                hall -> hall.gradeWith(0, 29, 20));
        voted("rules 0 10 200;", 0, copies(12, 10)).answers("30: all 42", 17,
                hall -> hall.gradeWith(0, 29, 20));
        voted("rules 40 10 200;", 29, copies(12, 29)).answers("30: all 29", 29,
                hall -> hall.gradeWith(0, 29, 20));
        voted("rules 40 10 200;", 0, copies(12, 0)).answers("30: all 0", 0,
                hall -> hall.gradeWith(0, 0, 20));
        // Of 22 grades 8 are dropped at each end: two of 0 and four of 29 are left.
        voted("rules 40 10 200;", 0, copies(12, 29)).answers("30: 22 grades", 58,
                hall -> hall.meanGrade(0, false));
    }

    private static void promise30Nearest() {
        for (int grade = 0; grade < 29; grade++) {
            int greater = grade + 1;
            voted("rules 0 0 50;", 0, grade, greater).answers("30: half, the greater one", greater,
                    hall -> hall.grade(0));
            int[] votes = copies(12, grade);
            Arrays.fill(votes, 0, 5, greater);
            voted("rules 0 0 200;", 0, votes).answers("30: 5 / 12", grade, hall -> hall.grade(0));
            votes[5] = greater;
            voted("rules 0 0 200;", 0, votes).answers("30: 6 / 12", greater, hall -> hall.grade(0));
            votes[6] = greater;
            voted("rules 0 0 200;", 0, votes).answers("30: 7 / 12", greater, hall -> hall.grade(0));
            Edges many = voted("rules 0 10 200;", greater, copies(11, grade));
            many.answers("30: 10 / 21", grade, hall -> hall.grade(0));
        }
    }

    // ---- Promises 31 and 32

    private static void expectMean(String what, Edges edges, int numerator, int denominator) {
        edges.answers("31: " + what + ", numerator", numerator, hall -> hall.meanGrade(0, false));
        edges.answers("31: " + what + ", denominator", denominator, hall -> hall.meanGrade(0, true));
    }

    private static void promise31LowestTerms() {
        for (int number = 1; number <= 12; number++) {
            int[] votes = copies(number, 0);
            expectMean("zeros", voted("rules 0 0 200;", 9, votes), 0, 1);
            votes[0] = 1;
            expectMean("a unit", voted("rules 0 0 200;", 9, votes), 1, number);
            votes[0] = 12;
            int divisor = gcd(12, number);
            expectMean("12 / " + number, voted("rules 0 0 200;", 9, votes), 12 / divisor,
                    number / divisor);
            expectMean("whole", voted("rules 0 0 200;", 9, copies(number, 29)), 29, 1);
        }
        expectMean("10 / 22", voted("rules 0 10 200;", 1, copies(12, 0)), 5, 11);
        expectMean("its setter's alone", voted("rules 40 0 1;", 29), 29, 1);
        expectMean("its setter's alone", voted("rules 40 0 1;", 0), 0, 1);
        expectMean("one is left of three", voted("rules 40 0 9;", 0, 0, 7, 29), 7, 1);
    }

    private static void promise31Numbers() {
        for (boolean denominator : new boolean[] {true, false}) {
            FULL.rows("31: route", 24, (hall, route) -> hall.meanGrade(route, denominator));
            EMPTY.refused("31: no routes", Expect.OUTSIDE, hall -> hall.meanGrade(0, denominator));
            FULL.changesNothing("31: mean", hall -> hall.meanGrade(23, denominator));
        }
        FULL.answers("31: 132 / 11", 12, hall -> hall.meanGrade(23, false));
        FULL.answers("31: 132 / 11", 1, hall -> hall.meanGrade(23, true));
    }

    private static void promise32VoteOf() {
        FULL.rows("32: member", 12, (hall, member) -> hall.voteOf(member, 23));
        Edges both = FULL.after(hall -> hall.climb(0, 0)).after(hall -> hall.vote(0, 0, 29));
        both.rows("32: route", 24, (hall, route) -> hall.voteOf(0, route));
        both.answers("32: the greatest", 29, hall -> hall.voteOf(0, 0));
        both.answers("32: the least", 0, hall -> hall.voteOf(0, 23));
        both.refused("32: of another", Expect.NO_ELEMENT, hall -> hall.voteOf(1, 0));
        FULL.refused("32: not climbed", Expect.NO_ELEMENT, hall -> hall.voteOf(0, 22));
        FULL.after(hall -> hall.climb(0, 22)).refused("32: climbed only", Expect.NO_ELEMENT,
                hall -> hall.voteOf(0, 22));
        both.after(hall -> hall.undo()).refused("32: undone", Expect.NO_ELEMENT,
                hall -> hall.voteOf(0, 0));
        FULL.refused("32: member before no vote", Expect.OUTSIDE, hall -> hall.voteOf(12, 0));
        FULL.refused("32: route before no vote", Expect.OUTSIDE, hall -> hall.voteOf(0, 24));
        EMPTY.refused("32: neither of both", Expect.OUTSIDE, hall -> hall.voteOf(0, 0));
        FRESH.refused("32: no routes", Expect.OUTSIDE, hall -> hall.voteOf(0, 0));
        FULL.changesNothing("32: a vote", hall -> hall.voteOf(11, 23));
    }

    // ---- Promises 33 and 34

    private static void promise33Numbers() {
        FULL.rows("33: route", 24, (hall, route) -> hall.gradeWith(route, 5, 5));
        FULL.range("33: grade", Expect.ARGUMENT, 0, 29, (hall, grade) -> hall.gradeWith(0, grade, 1));
        FULL.range("33: votes", Expect.ARGUMENT, 1, 20, (hall, votes) -> hall.gradeWith(0, 5, votes));
        FULL.refused("33: route before grade", Expect.OUTSIDE, hall -> hall.gradeWith(24, 30, 1));
        FULL.refused("33: route before votes", Expect.OUTSIDE, hall -> hall.gradeWith(-1, 0, 21));
        FULL.refused("33: both", Expect.ARGUMENT, hall -> hall.gradeWith(0, 30, 0));
        EMPTY.refused("33: no routes", Expect.OUTSIDE, hall -> hall.gradeWith(0, 5, 5));
        FULL.changesNothing("33: a question", hall -> hall.gradeWith(23, 29, 20));
    }

    private static void promise33OtherPeople() {
        Edges all = voted("rules 0 0 200;", 0, copies(12, 0));
        all.answers("33: twelve votes stay", 18, hall -> hall.gradeWith(0, 29, 20));
        all.answers("33: and one more", 2, hall -> hall.gradeWith(0, 29, 1));
        all.answers("33: the grade is as before", 0, hall -> hall.grade(0));
        Edges none = voted("rules 0 0 9;", 0);
        none.answers("33: the ballot is not empty then", 29, hall -> hall.gradeWith(0, 29, 1));
        none.answers("33: nor with twenty", 29, hall -> hall.gradeWith(0, 29, 20));
        none.answers("33: it is now", 0, hall -> hall.grade(0));
        voted("rules 0 1 9;", 0).answers("33: half, the greater one", 15,
                hall -> hall.gradeWith(0, 29, 1));
    }

    private static void promise34Numbers() {
        FULL.rows("34: route", 24, (hall, route) -> hall.votesTo(route, 12));
        voted("rules 0 0 9;", 12).range("34: grade", Expect.ARGUMENT, 0, 29,
                (hall, grade) -> hall.votesTo(0, grade));
        FULL.refused("34: route before grade", Expect.OUTSIDE, hall -> hall.votesTo(24, 30));
        FULL.refused("34: route before grade", Expect.OUTSIDE, hall -> hall.votesTo(-1, -1));
        Edges slow = voted("rules 0 10 9;", 0);
        slow.refused("34: grade before 20 votes", Expect.ARGUMENT, hall -> hall.votesTo(0, 30));
        slow.refused("34: route before 20 votes", Expect.OUTSIDE, hall -> hall.votesTo(1, 29));
        EMPTY.refused("34: no routes", Expect.OUTSIDE, hall -> hall.votesTo(0, 5));
        FULL.changesNothing("34: a question", hall -> hall.votesTo(23, 13));
    }

    /** The answer is the first number of votes with which the grade is this one. */
    private static void promise34Least() {
        Edges[] all = {voted("rules 20 2 50;", 12, 16, 20), voted("rules 0 0 50;", 7),
            voted("rules 40 10 50;", 15, 0, 29), voted("rules 5 3 50;", 29, 0, 0, 0, 3)};
        for (Edges edges : all) {
            for (int grade = 0; grade <= 29; grade++) {
                int asked = grade;
                int[] due = {-1};
                edges.changesNothing("34: least", hall -> due[0] = firstVotes(hall, asked));
                if (due[0] < 0) {
                    edges.refused("34: grade " + grade, Expect.NO_ELEMENT,
                            hall -> hall.votesTo(0, asked));
                } else {
                    edges.answers("34: grade " + grade, due[0], hall -> hall.votesTo(0, asked));
                }
            }
        }
    }

    private static int firstVotes(ClimbingHall hall, int grade) {
        if (hall.grade(0) == grade) {
            return 0;
        }
        for (int votes = 1; votes <= 20; votes++) {
            if (hall.gradeWith(0, grade, votes) == grade) {
                return votes;
            }
        }
        return -1;
    }

    private static void promise34TwentyVotes() {
        for (int grade = 0; grade <= 29; grade++) {
            int has = grade;
            voted("rules 20 2 9;", grade).answers("34: has it now", 0, hall -> hall.votesTo(0, has));
            voted("rules 20 0 9;", 29 - grade).answers("34: has it now, or with one vote",
                    29 - grade == grade ? 0 : 1, hall -> hall.votesTo(0, has));
        }
        // Ten grades of 0 are all dropped as soon as TRIM percent of 10 and the votes are 10.
        voted("rules 34 10 9;", 0).answers("34: 20 votes", 20, hall -> hall.votesTo(0, 29));
        voted("rules 33 10 9;", 0).refused("34: 21 votes", Expect.NO_ELEMENT,
                hall -> hall.votesTo(0, 29));
        voted("rules 35 10 9;", 0).answers("34: 19 votes", 19, hall -> hall.votesTo(0, 29));
        voted("rules 0 10 9;", 0).refused("34: far too many", Expect.NO_ELEMENT,
                hall -> hall.votesTo(0, 2));
    }

    // ---- Promises 35 and 36

    private static void promise35Disputed() {
        FRESH.refused("35: no routes", Expect.NO_ELEMENT, hall -> hall.disputed());
        EMPTY.refused("35: an empty hall", Expect.NO_ELEMENT, hall -> hall.disputed());
        voted("", 9).refused("35: no votes", Expect.NO_ELEMENT, hall -> hall.disputed());
        voted("", 9, 29).refused("35: one vote", Expect.NO_ELEMENT, hall -> hall.disputed());
        voted("", 9, 29, 29).answers("35: two alike", 0, hall -> hall.disputed());
        voted("", 9, 0, 0).answers("35: two of grade 0", 0, hall -> hall.disputed());
        voted("", 9, 0, 29).answers("35: as far as can be", 0, hall -> hall.disputed());
        voted("", 9, 0, 29).after(hall -> hall.undo()).refused("35: the second undone",
                Expect.NO_ELEMENT, hall -> hall.disputed());
        FULL.answers("35: the last route alone has votes", 23, hall -> hall.disputed());
        Edges alike = FULL.after(hall -> {
            voteBoth(hall, 3, 10, 10);
            voteBoth(hall, 8, 20, 20);
        });
        alike.answers("35: the greatest difference", 23, hall -> hall.disputed());
        Edges gone = alike.after(hall -> hall.removeRoute(23));
        gone.answers("35: the lowest number of several", 3, hall -> hall.disputed());
        Edges ends = gone.after(hall -> {
            voteBoth(hall, 5, 0, 0);
            voteBoth(hall, 6, 29, 29);
        });
        ends.answers("35: 0 and 0, 29 and 29 differ by 0, too", 3, hall -> hall.disputed());
        gone.after(hall -> hall.vote(1, 8, 19)).answers("35: 1 is more than 0", 8,
                hall -> hall.disputed());
        gone.after(hall -> hall.vote(1, 8, 19)).after(hall -> hall.vote(1, 3, 11))
                .answers("35: the lowest number of several", 3, hall -> hall.disputed());
        FULL.after(hall -> voteBoth(hall, 0, 0, 22)).answers("35: 22 and 22", 0,
                hall -> hall.disputed());
        FULL.after(hall -> voteBoth(hall, 0, 0, 21)).answers("35: 21 and 22", 23,
                hall -> hall.disputed());
        FULL.changesNothing("35: a question", hall -> hall.disputed());
    }

    private static void voteBoth(ClimbingHall hall, int route, int first, int second) {
        hall.climb(0, route);
        hall.climb(1, route);
        hall.vote(0, route, first);
        hall.vote(1, route, second);
    }

    private static void promise36Numbers() {
        Edges walls = new Edges(EXPECT, () -> Halls.of(Halls.many("wall 3 0 60", 8)))
                .after(hall -> hall.setRoute(0, 0)).after(hall -> hall.setRoute(7, 29));
        walls.rows("36: wall", 8, (hall, wall) -> hall.hardest(wall));
        walls.answers("36: the only one, of grade 0", 0, hall -> hall.hardest(0));
        walls.answers("36: the only one", 1, hall -> hall.hardest(7));
        for (int wall = 1; wall < 7; wall++) {
            int bare = wall;
            walls.refused("36: no route", Expect.NO_ELEMENT, hall -> hall.hardest(bare));
        }
        walls.after(hall -> hall.removeRoute(1)).refused("36: removed", Expect.NO_ELEMENT,
                hall -> hall.hardest(7));
        EMPTY.refused("36: no walls", Expect.OUTSIDE, hall -> hall.hardest(0));
        FRESH.refused("36: no routes", Expect.NO_ELEMENT, hall -> hall.hardest(0));
        FRESH.refused("36: wall before no route", Expect.OUTSIDE, hall -> hall.hardest(2));
        FULL.changesNothing("36: a question", hall -> hall.hardest(4));
    }

    private static void promise36Several() {
        FULL.answers("36: five routes", 4, hall -> hall.hardest(0));
        // Route 23, set with 23, has 12 by its votes.
        FULL.answers("36: by the grade, not its setter's", 22, hall -> hall.hardest(4));
        Edges alike = FRESH.after(hall -> {
            hall.setRoute(1, 29);
            for (int route = 0; route < 5; route++) {
                hall.setRoute(0, 7);
            }
        });
        alike.answers("36: the lowest number of five", 1, hall -> hall.hardest(0));
        Edges last = alike.after(hall -> hall.removeRoute(1)).after(hall -> hall.setRoute(0, 8));
        last.answers("36: 8 is more than 7", 5, hall -> hall.hardest(0));
    }

    // ---- Promises 37 and 38

    private static void expectLeft(int wear, int grade, int due) {
        voted("rules 0 1 " + wear + ";", grade).answers("37: grade " + grade + " up to " + wear, due,
                hall -> hall.climbsLeft(0));
    }

    private static void promise37ClimbsLeft() {
        FULL.rows("37: route", 24, (hall, route) -> hall.climbsLeft(route));
        EMPTY.refused("37: no routes", Expect.OUTSIDE, hall -> hall.climbsLeft(0));
        FULL.changesNothing("37: a question", hall -> hall.climbsLeft(23));
        for (int grade : new int[] {0, 9}) {
            expectLeft(1, grade, 1);
            expectLeft(2, grade, 2);
            expectLeft(200, grade, 200);
        }
        for (int grade : new int[] {10, 19}) {
            expectLeft(1, grade, 1);
            expectLeft(2, grade, 1);
            expectLeft(3, grade, 2);
            expectLeft(200, grade, 100);
        }
        for (int grade : new int[] {20, 29}) {
            expectLeft(3, grade, 1);
            expectLeft(4, grade, 2);
            expectLeft(6, grade, 2);
            expectLeft(199, grade, 67);
            expectLeft(200, grade, 67);
        }
    }

    private static void promise37AsManyClimbs() {
        for (int wear = 1; wear <= 9; wear++) {
            for (int grade : new int[] {9, 10, 20}) {
                ClimbingHall hall = Halls.of("rules 0 1 " + wear
                        + ";wall 3 0 60;harness 0 60;member 0 0");
                hall.setRoute(0, grade);
                hall.lend(0, 0);
                for (int left = hall.climbsLeft(0); left > 0; left--) {
                    EXPECT.equal("37: not worn yet", hall.route(0, 6), 0);
                    EXPECT.equal("37: one less each time", hall.climbsLeft(0), left);
                    hall.climb(0, 0);
                }
                EXPECT.equal("37: worn", hall.route(0, 6), 1);
                EXPECT.equal("37: none left", hall.climbsLeft(0), 0);
            }
        }
        // The route of a ballot of 29 alone has wear 3 of 4; a vote for 0 makes a climb cost 1.
        Edges voted = voted("rules 0 0 4;", 29, 29);
        voted.answers("37: a climb of 3 to 6", 1, hall -> hall.climbsLeft(0));
        voted.after(hall -> hall.climb(0, 0)).after(hall -> hall.vote(0, 0, 0))
                .answers("37: worn, whatever a climb costs", 0, hall -> hall.climbsLeft(0));
    }

    private static void promise38AverageGrade() {
        FRESH.refused("38: no routes", Expect.NO_ELEMENT, hall -> hall.averageGrade());
        EMPTY.refused("38: an empty hall", Expect.NO_ELEMENT, hall -> hall.averageGrade());
        FRESH.after(hall -> hall.setRoute(0, 5)).after(hall -> hall.removeRoute(0)).refused(
                "38: removed", Expect.NO_ELEMENT, hall -> hall.averageGrade());
        for (int grade = 0; grade <= 29; grade++) {
            ClimbingHall one = new ClimbingHall();
            one.setRoute(1, grade);
            EXPECT.equal("38: one route", one.averageGrade(), grade);
        }
        // 0 to 22, and the 12 of the last route: 265 in all.
        EXPECT.equal("38: twenty-four routes", Halls.full().averageGrade(), 265.0 / 24);
        FULL.changesNothing("38: a question", hall -> hall.averageGrade());
        ClimbingHall three = new ClimbingHall();
        three.setRoute(0, 0);
        three.setRoute(0, 0);
        three.setRoute(0, 1);
        EXPECT.equal("38: a third", three.averageGrade(), 1.0 / 3);
    }
}
