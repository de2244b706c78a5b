/** Makes halls for the tests, and puts texts into their input buffers. */
final class Halls {
    private Halls() {
    }

    /** A hall of a setup text, which must be valid. */
    static ClimbingHall of(String text) {
        ClimbingHall hall = new ClimbingHall();
        put(hall, text);
        hall.load();
        return hall;
    }

    /** Appends a text of signs below 256. */
    static void put(ClimbingHall hall, String text) {
        for (int at = 0; at < text.length(); at += 20) {
            hall.append(four(text, at), four(text, at + 4), four(text, at + 8), four(text, at + 12),
                    four(text, at + 16));
        }
    }

    /** Four signs of a text as an int; 0 stands for a sign behind its end. */
    static int four(String text, int at) {
        int four = 0;
        for (int i = 0; i < 4; i++) {
            int sign = at + i < text.length() ? text.charAt(at + i) : 0;
            four = four << 8 | sign;
        }
        return four;
    }

    /** The error position of a text. */
    static int errorIn(String text) {
        ClimbingHall hall = new ClimbingHall();
        put(hall, text);
        return hall.errorPosition();
    }

    /** Lets a member climb a route so many times. */
    static void climb(ClimbingHall hall, int member, int route, int times) {
        for (int i = 0; i < times; i++) {
            hall.climb(member, route);
        }
    }

    /**
     * A hall with one route of a grade, which members from number 0 on have climbed and voted for.
     * The rules are the statement in front, which may be empty.
     */
    static ClimbingHall withVotes(String rules, int grade, int... votes) {
        StringBuilder text = new StringBuilder(rules);
        text.append("wall 12 0 60");
        for (int i = 0; i < votes.length; i++) {
            text.append(";harness 1 365;member 1 0");
        }
        ClimbingHall hall = of(text.toString());
        hall.setRoute(0, grade);
        for (int member = 0; member < votes.length; member++) {
            hall.lend(member, member);
            hall.climb(member, 0);
            hall.vote(member, 0, votes[member]);
        }
        return hall;
    }

    /** All answers of the queries that need no choice of numbers beyond the parts, as one text. */
    static String picture(ClimbingHall hall) {
        StringBuilder all = new StringBuilder();
        for (int what = 0; what < 10; what++) {
            all.append(hall.count(what)).append(' ');
        }
        for (int wall = 0; wall < hall.count(0); wall++) {
            for (int what = 0; what < 6; what++) {
                all.append(hall.wall(wall, what)).append(' ');
            }
        }
        for (int route = 0; route < hall.count(1); route++) {
            for (int what = 0; what < 7; what++) {
                all.append(hall.route(route, what)).append(' ');
            }
            all.append('g').append(hall.grade(route)).append(' ');
            for (int member = 0; member < hall.count(3); member++) {
                all.append(voteOrNone(hall, member, route)).append(' ');
            }
        }
        for (int harness = 0; harness < hall.count(2); harness++) {
            for (int what = 0; what < 6; what++) {
                all.append(hall.harness(harness, what)).append(' ');
            }
        }
        for (int member = 0; member < hall.count(3); member++) {
            for (int what = 0; what < 6; what++) {
                all.append(hall.member(member, what)).append(' ');
            }
        }
        for (int course = 0; course < hall.count(4); course++) {
            for (int what = 0; what < 4; what++) {
                all.append(hall.course(course, what)).append(' ');
            }
        }
        for (int index = 0; index < hall.count(5); index++) {
            for (int what = 0; what < 4; what++) {
                all.append(hall.archived(index, what)).append(' ');
            }
        }
        return all.toString();
    }

    private static int voteOrNone(ClimbingHall hall, int member, int route) {
        try {
            return hall.voteOf(member, route);
        } catch (java.util.NoSuchElementException none) {
            return ClimbingHall.NONE;
        }
    }
}
