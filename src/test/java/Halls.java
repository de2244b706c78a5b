/** Makes halls for the tests, and puts texts into their input buffers. */
final class Halls {
    private Halls() {
    }

    /** A hall of a setup text, which must be valid. */
    static ClimbingHall of(String text) {
        ClimbingHall hall = new ClimbingHall();
        put(hall, text);
        hall.load();
        return hall;
    }

    /** Appends a text of signs below 256. */
    static void put(ClimbingHall hall, String text) {
        for (int at = 0; at < text.length(); at += 20) {
            hall.append(four(text, at), four(text, at + 4), four(text, at + 8), four(text, at + 12),
                    four(text, at + 16));
        }
    }

    /** Four signs of a text as an int; 0 stands for a sign behind its end. */
    static int four(String text, int at) {
        int four = 0;
        for (int i = 0; i < 4; i++) {
            int sign = at + i < text.length() ? text.charAt(at + i) : 0;
            four = four << 8 | sign;
        }
        return four;
    }

    /** The error position of a text. */
    static int errorIn(String text) {
        ClimbingHall hall = new ClimbingHall();
        put(hall, text);
        return hall.errorPosition();
    }

    /** Ends so many days, by as few calls as can be. */
    static void endDays(ClimbingHall hall, int days) {
        for (int left = days; left > 0; left -= 60) {
            hall.endDays(Math.min(left, 60));
        }
    }

    /** Lets a member climb a route so many times. */
    static void climb(ClimbingHall hall, int member, int route, int times) {
        for (int i = 0; i < times; i++) {
            hall.climb(member, route);
        }
    }

    /**
     * A hall with one route of a grade, which members from number 0 on have climbed and voted for.
     * The rules are the statement in front, which may be empty.
     */
    static ClimbingHall withVotes(String rules, int grade, int... votes) {
        StringBuilder text = new StringBuilder(rules);
        text.append("wall 12 0 60");
        for (int i = 0; i < votes.length; i++) {
            text.append(";harness 1 365;member 1 0");
        }
        ClimbingHall hall = of(text.toString());
        hall.setRoute(0, grade);
        for (int member = 0; member < votes.length; member++) {
            hall.lend(member, member);
            hall.climb(member, 0);
            hall.vote(member, 0, votes[member]);
        }
        return hall;
    }

    /** A hall of as many of everything as a text can say, with 24 routes and an archive of 30. */
    static ClimbingHall full() {
        ClimbingHall hall = of("rules 10 1 200;" + many("wall 3 0 2", 8) + ";"
                + many("harness 0 90", 12) + ";harness 0 365;harness 0 1;harness 0 9;"
                + many("member 0 0", 6) + ";" + many("member 0 4", 6) + ";"
                + many("course 1 12 0", 7) + ";course 5 6 0");
        setRoutes(hall, 0, 24);
        hall.endDays(3);
        setRoutes(hall, 0, 24);
        for (int removed = 0; removed < 6; removed++) {
            hall.removeRoute(18);
        }
        setRoutes(hall, 18, 24);
        hall.save();
        hall.check(14, false);
        for (int member = 0; member < 12; member++) {
            hall.lend(member, member);
            hall.climb(member, 23);
            hall.vote(member, 23, 2 * member);
            hall.enroll(member, member < 6 ? member : 7);
        }
        put(hall, "wall 3 0 1");
        put(hall, " ".repeat(590));
        return hall;
    }

    /** Sets the routes of these numbers, five on a wall. */
    private static void setRoutes(ClimbingHall hall, int from, int behind) {
        for (int route = from; route < behind; route++) {
            hall.setRoute(route / 5, route);
        }
    }

    /** A statement so many times, with semicolons between. */
    static String many(String statement, int times) {
        return String.join(";", java.util.Collections.nCopies(times, statement));
    }

    static final int PORTIONS = 4;

    /** All answers of the queries that need no choice of numbers beyond the parts, as one text. */
    static String picture(ClimbingHall hall) {
        StringBuilder all = new StringBuilder();
        for (int portion = 0; portion < PORTIONS; portion++) {
            all.append(portion(hall, portion));
        }
        return all.toString();
    }

    /** A part of the picture, for which also a full hall is asked fewer than 300 times. */
    static String portion(ClimbingHall hall, int portion) {
        StringBuilder all = new StringBuilder();
        switch (portion) {
            case 0:
                for (int what = 0; what < 10; what++) {
                    all.append(hall.count(what)).append(' ');
                }
                addParts(all, hall.count(0), 6, hall::wall);
                addParts(all, hall.count(2), 6, hall::harness);
                addParts(all, hall.count(3), 6, hall::member);
                addParts(all, hall.count(4), 4, hall::course);
                break;
            case 1:
                addParts(all, hall.count(1), 7, hall::route);
                addParts(all, hall.count(1), 1, (route, what) -> hall.grade(route));
                break;
            case 2:
                addParts(all, hall.count(1), hall.count(3),
                        (route, member) -> voteOrNone(hall, member, route));
                break;
            default:
                addParts(all, hall.count(5), 4, hall::archived);
                break;
        }
        return all.toString();
    }

    private static void addParts(StringBuilder all, int rows, int parts,
            java.util.function.IntBinaryOperator part) {
        for (int row = 0; row < rows; row++) {
            for (int what = 0; what < parts; what++) {
                all.append(part.applyAsInt(row, what)).append(' ');
            }
            all.append('/');
        }
    }

    /** The vote of a member for a route; NONE if it has not voted for it. */
    static int voteOrNone(ClimbingHall hall, int member, int route) {
        try {
            return hall.voteOf(member, route);
        } catch (java.util.NoSuchElementException none) {
            return ClimbingHall.NONE;
        }
    }
}
