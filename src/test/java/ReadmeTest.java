/** The calls of README.md, with the answers that stand beside them there. */
public final class ReadmeTest {
    private static final Expect EXPECT = new Expect("ReadmeTest");

    public static void main(String[] args) {
        ClimbingHall hall = new ClimbingHall();
        callIt(hall);
        setItUp(hall);
        refuse(hall);
        EXPECT.finish();
    }

    private static void callIt(ClimbingHall hall) {
        int route = hall.setRoute(0, 12);
        EXPECT.equal("setRoute", route, 0);
        EXPECT.equal("lend", hall.lend(0, 1), 60);
        EXPECT.equal("climb", hall.climb(0, route), 2);
        EXPECT.equal("vote", hall.vote(0, route, 16), 13);
        EXPECT.equal("allowedRoutes", hall.allowedRoutes(0), 1);
        EXPECT.equal("endDays", hall.endDays(7), 0);
        EXPECT.equal("undo", hall.undo(), 4);
        EXPECT.equal("the day", hall.count(6), 0);
        EXPECT.equal("the harness of member 0", hall.member(0, 3), 1);
    }

    private static void put(ClimbingHall hall, String text) {
        for (int at = 0; at < text.length(); at += 20) {
            hall.append(four(text, at), four(text, at + 4), four(text, at + 8), four(text, at + 12),
                    four(text, at + 16));
        }
    }

    private static int four(String text, int at) {
        int four = 0;
        for (int i = at; i < at + 4; i++) {
            four = four << 8 | (i < text.length() ? text.charAt(i) : 0);
        }
        return four;
    }

    private static void setItUp(ClimbingHall hall) {
        put(hall, "rules 10 1 30; harness 0 90; member 0 2; wall 9 2 61");
        EXPECT.equal("errorPosition", hall.errorPosition(), 50);
        EXPECT.equal("truncate", hall.truncate(50), 50);
        put(hall, "14");
        EXPECT.equal("errorPosition", hall.errorPosition(), ClimbingHall.NONE);
        EXPECT.equal("load", hall.load(), 1);
        EXPECT.equal("an empty buffer", hall.append(0, 0, 0, 0, 0), 0);
    }

    private static void refuse(ClimbingHall hall) {
        EXPECT.fails("setRoute", Expect.ARGUMENT, () -> hall.setRoute(0, 30));
        EXPECT.fails("setRoute", Expect.OUTSIDE, () -> hall.setRoute(1, 30));
        EXPECT.fails("giveBack", Expect.STATE, () -> hall.giveBack(0));
        EXPECT.fails("hardest", Expect.NO_ELEMENT, () -> hall.hardest(0));
        EXPECT.equal("undoCount", hall.undoCount(), 0);
    }
}
