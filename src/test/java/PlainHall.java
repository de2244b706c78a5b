import java.util.ArrayList;
import java.util.Collections;
import java.util.List;
import java.util.NoSuchElementException;

/**
 * The hall once more, written from the document in the plainest way, with the Java library and
 * without care for room or time. RandomRunsTest compares the program with it.
 */
final class PlainHall {
    private static final class Wall {
        int height, level, period, reset;
    }

    private static final class Route {
        int wall, setter, day, wear, climbs;
        boolean[] climbed = new boolean[12];
        Integer[] votes = new Integer[12];
    }

    private static final class Harness {
        int size, validity, checked;
        boolean retired;
    }

    private static final class Member {
        int size, level, climbs, harness = -1, course = -1, kept;
    }

    private static final class Course {
        int level, seats, climbs;
    }

    private static final class State {
        int day, trim = 20, setter = 2, wear = 50;
        List<Wall> walls = new ArrayList<>();
        List<Route> routes = new ArrayList<>();
        List<int[]> archive = new ArrayList<>();
        List<Harness> harnesses = new ArrayList<>();
        List<Member> members = new ArrayList<>();
        List<Course> courses = new ArrayList<>();

        State copy() {
            State s = new State();
            s.day = day;
            s.trim = trim;
            s.setter = setter;
            s.wear = wear;
            for (Wall w : walls) {
                s.walls.add(newWall(w.height, w.level, w.period, w.reset));
            }
            for (Route r : routes) {
                Route c = new Route();
                c.wall = r.wall;
                c.setter = r.setter;
                c.day = r.day;
                c.wear = r.wear;
                c.climbs = r.climbs;
                c.climbed = r.climbed.clone();
                c.votes = r.votes.clone();
                s.routes.add(c);
            }
            s.archive.addAll(archive);
            for (Harness h : harnesses) {
                Harness c = newHarness(h.size, h.validity);
                c.checked = h.checked;
                c.retired = h.retired;
                s.harnesses.add(c);
            }
            for (Member m : members) {
                Member c = newMember(m.size, m.level);
                c.climbs = m.climbs;
                c.harness = m.harness;
                c.course = m.course;
                c.kept = m.kept;
                s.members.add(c);
            }
            s.courses.addAll(courses);
            return s;
        }
    }

    private static Wall newWall(int height, int level, int period, int reset) {
        Wall w = new Wall();
        w.height = height;
        w.level = level;
        w.period = period;
        w.reset = reset;
        return w;
    }

    private static Harness newHarness(int size, int validity) {
        Harness h = new Harness();
        h.size = size;
        h.validity = validity;
        return h;
    }

    private static Member newMember(int size, int level) {
        Member m = new Member();
        m.size = size;
        m.level = level;
        return m;
    }

    private static Course newCourse(int level, int seats, int climbs) {
        Course c = new Course();
        c.level = level;
        c.seats = seats;
        c.climbs = climbs;
        return c;
    }

    private State s;
    private State saved;
    private final List<State> undos = new ArrayList<>();
    private String text = "";

    PlainHall() {
        text = "wall 12 0 7;wall 15 1 10;harness 1 30;harness 1 60;member 1 0;member 1 1;course 1 4 5";
        load();
    }

    // ---- Input

    public int append(int a, int b, int c, int d, int e) {
        StringBuilder more = new StringBuilder(text);
        for (int four : new int[] {a, b, c, d, e}) {
            for (byte one : java.nio.ByteBuffer.allocate(4).putInt(four).array()) {
                if (one != 0) {
                    more.append((char) (one & 255));
                }
            }
        }
        state(more.length() > 600);
        text = more.toString();
        return text.length();
    }

    public int truncate(int length) {
        argument(length < 0 || length > text.length());
        text = text.substring(0, length);
        return length;
    }

    private State read;

    /** Tokens by a pattern; a statement is compared with its form token by token. */
    public int errorPosition() {
        read = new State();
        java.util.regex.Matcher tokens = java.util.regex.Pattern
                .compile("[a-z]+|[0-9]+|[^ ]", java.util.regex.Pattern.DOTALL).matcher(text);
        List<String> words = List.of("rules", "wall", "harness", "member", "course");
        int[][][] ranges = {{{0, 40}, {0, 10}, {1, 200}}, {{3, 30}, {0, 5}, {1, 60}},
            {{0, 3}, {1, 365}}, {{0, 3}, {0, 5}}, {{1, 5}, {1, 12}, {0, 200}}};
        int[] most = {1, 8, 15, 12, 8};
        int[] had = new int[5];
        while (true) {
            if (!tokens.find()) {
                return text.length();
            }
            int kind = words.indexOf(tokens.group());
            if (kind < 0 || ++had[kind] > most[kind]) {
                return tokens.start();
            }
            int[] n = new int[3];
            for (int i = 0; i < ranges[kind].length; i++) {
                if (!tokens.find()) {
                    return text.length();
                }
                if (!tokens.group().matches("[0-9]{1,3}")) {
                    return tokens.start();
                }
                n[i] = Integer.parseInt(tokens.group());
                if (n[i] < ranges[kind][i][0] || n[i] > ranges[kind][i][1]) {
                    return tokens.start();
                }
            }
            take(kind, n[0], n[1], n[2]);
            if (!tokens.find()) {
                return -1;
            }
            if (!tokens.group().equals(";")) {
                return tokens.start();
            }
        }
    }

    private void take(int kind, int a, int b, int c) {
        if (kind == 0) {
            read.trim = a;
            read.setter = b;
            read.wear = c;
        } else if (kind == 1) {
            read.walls.add(newWall(a, b, c, c));
        } else if (kind == 2) {
            read.harnesses.add(newHarness(a, b));
        } else if (kind == 3) {
            read.members.add(newMember(a, b));
        } else {
            read.courses.add(newCourse(a, b, c));
        }
    }

    public int load() {
        argument(errorPosition() != -1);
        s = read;
        saved = null;
        undos.clear();
        text = "";
        return s.walls.size();
    }

    // ---- Changes

    private void change() {
        undos.add(s.copy());
        if (undos.size() > 8) {
            undos.remove(0);
        }
    }

    public int setRoute(int wall, int grade) {
        index(wall, s.walls);
        argument(grade < 0 || grade > 29);
        state(closed(wall) || onWall(wall) >= 5 || s.routes.size() >= 24);
        change();
        Route r = new Route();
        r.wall = wall;
        r.setter = grade;
        r.day = s.day;
        s.routes.add(r);
        return s.routes.size() - 1;
    }

    public int removeRoute(int route) {
        index(route, s.routes);
        change();
        return toArchive(route);
    }

    private int toArchive(int route) {
        Route r = s.routes.get(route);
        int grade = grade(route);
        s.archive.add(new int[] {r.wall, grade, s.day, r.climbs});
        if (s.archive.size() > 30) {
            s.archive.remove(0);
        }
        s.routes.remove(route);
        return grade;
    }

    private boolean allowed(int member, int route) {
        Member m = s.members.get(member);
        Route r = s.routes.get(route);
        return !closed(r.wall) && m.level >= s.walls.get(r.wall).level && m.harness >= 0
                && inForce(m.harness, s.day) && r.wear < s.wear;
    }

    public int climb(int member, int route) {
        index(member, s.members);
        index(route, s.routes);
        state(!allowed(member, route));
        change();
        Route r = s.routes.get(route);
        r.wear += 1 + grade(route) / 10;
        r.climbs++;
        r.climbed[member] = true;
        s.members.get(member).climbs++;
        return r.wear;
    }

    public int vote(int member, int route, int grade) {
        index(member, s.members);
        index(route, s.routes);
        argument(grade < 0 || grade > 29);
        state(!s.routes.get(route).climbed[member]);
        change();
        s.routes.get(route).votes[member] = grade;
        return grade(route);
    }

    private boolean lent(int harness) {
        return s.members.stream().anyMatch(m -> m.harness == harness);
    }

    private boolean inForce(int harness, int day) {
        Harness h = s.harnesses.get(harness);
        return !h.retired && day < h.checked + h.validity;
    }

    public int lend(int member, int harness) {
        index(member, s.members);
        index(harness, s.harnesses);
        state(s.members.get(member).harness >= 0
                || s.members.get(member).size != s.harnesses.get(harness).size
                || lent(harness) || !inForce(harness, s.day));
        change();
        s.members.get(member).harness = harness;
        return harness(harness, 3);
    }

    public int giveBack(int member) {
        index(member, s.members);
        int harness = s.members.get(member).harness;
        state(harness < 0);
        change();
        s.members.get(member).harness = -1;
        return harness;
    }

    public int check(int harness, boolean good) {
        index(harness, s.harnesses);
        state(lent(harness) || s.harnesses.get(harness).retired);
        change();
        s.harnesses.get(harness).checked = s.day;
        s.harnesses.get(harness).retired = !good;
        return good ? harness(harness, 3) : -1;
    }

    public int enroll(int member, int course) {
        index(member, s.members);
        index(course, s.courses);
        Member m = s.members.get(member);
        Course c = s.courses.get(course);
        int there = Integer.bitCount(course(course, 3));
        state(m.course >= 0 || m.level != c.level - 1 || m.climbs < c.climbs || there >= c.seats);
        change();
        s.members.get(member).course = course;
        return there + 1;
    }

    public int leaveCourse(int member) {
        index(member, s.members);
        int course = s.members.get(member).course;
        state(course < 0);
        change();
        s.members.get(member).course = -1;
        return course;
    }

    public int finish(int course, int passed) {
        index(course, s.courses);
        change();
        int got = 0;
        for (int i = 0; i < s.members.size(); i++) {
            Member m = s.members.get(i);
            if (m.course == course) {
                m.course = -1;
                if ((passed & (1 << i)) != 0) {
                    m.level = s.courses.get(course).level;
                    got++;
                }
            }
        }
        return got;
    }

    public int postpone(int wall, int days) {
        index(wall, s.walls);
        argument(days < 1 || days > 14);
        change();
        return s.walls.get(wall).reset += days;
    }

    public int endDays(int days) {
        argument(days < 1 || days > 60 || s.day + days > 9999);
        change();
        int gone = 0;
        for (int i = 0; i < days; i++) {
            for (int w = 0; w < s.walls.size(); w++) {
                if (closed(w)) {
                    for (int r = 0; r < s.routes.size();) {
                        if (s.routes.get(r).wall == w) {
                            toArchive(r);
                            gone++;
                        } else {
                            r++;
                        }
                    }
                    s.walls.get(w).reset = s.day + s.walls.get(w).period;
                }
            }
            for (Member m : s.members) {
                m.kept += m.harness >= 0 ? 1 : 0;
            }
            s.day++;
        }
        return gone;
    }

    // ---- History

    public int undo() {
        state(undos.isEmpty());
        s = undos.remove(undos.size() - 1);
        return undos.size();
    }

    public int undoCount() {
        return undos.size();
    }

    public int save() {
        saved = s.copy();
        return s.day;
    }

    public int restore() {
        state(saved == null);
        s = saved.copy();
        undos.clear();
        return s.day;
    }

    // ---- Hall

    public int count(int what) {
        return part(what, s.walls.size(), s.routes.size(), s.harnesses.size(), s.members.size(),
                s.courses.size(), s.archive.size(), s.day, s.trim, s.setter, s.wear);
    }

    private boolean closed(int wall) {
        return s.walls.get(wall).reset == s.day;
    }

    private int onWall(int wall) {
        return (int) s.routes.stream().filter(r -> r.wall == wall).count();
    }

    public int wall(int wall, int what) {
        index(wall, s.walls);
        Wall w = s.walls.get(wall);
        return part(what, w.height, w.level, w.period, w.reset, onWall(wall), closed(wall) ? 1 : 0);
    }

    public int route(int route, int what) {
        index(route, s.routes);
        Route r = s.routes.get(route);
        return part(what, r.wall, r.setter, r.day, r.wear, r.climbs, votes(r).size(),
                r.wear >= s.wear ? 1 : 0);
    }

    public int archived(int index, int what) {
        index(index, s.archive);
        return part(what, s.archive.get(index));
    }

    public int member(int member, int what) {
        index(member, s.members);
        Member m = s.members.get(member);
        return part(what, m.size, m.level, m.climbs, m.harness, m.course, m.kept);
    }

    public int harness(int harness, int what) {
        index(harness, s.harnesses);
        Harness h = s.harnesses.get(harness);
        return part(what, h.size, h.validity, h.checked, h.checked + h.validity,
                h.retired ? 2 : lent(harness) ? 1 : 0, inForce(harness, s.day) ? 1 : 0);
    }

    public int course(int course, int what) {
        index(course, s.courses);
        int set = 0;
        for (int i = 0; i < s.members.size(); i++) {
            set |= s.members.get(i).course == course ? 1 << i : 0;
        }
        Course c = s.courses.get(course);
        return part(what, c.level, c.seats, c.climbs, set);
    }

    public int bill(int member, int climb, int late) {
        index(member, s.members);
        Member m = s.members.get(member);
        return Math.addExact(Math.multiplyExact(m.climbs, climb), Math.multiplyExact(m.kept, late));
    }

    // ---- Grades

    private static List<Integer> votes(Route r) {
        List<Integer> all = new ArrayList<>();
        for (Integer vote : r.votes) {
            if (vote != null) {
                all.add(vote);
            }
        }
        return all;
    }

    private List<Integer> kept(int route, int grade, int more) {
        Route r = s.routes.get(route);
        List<Integer> all = votes(r);
        all.addAll(Collections.nCopies(s.setter, r.setter));
        all.addAll(Collections.nCopies(more, grade));
        if (all.isEmpty()) {
            all.add(r.setter);
        }
        Collections.sort(all);
        int d = all.size() * s.trim / 100;
        return all.subList(d, all.size() - d);
    }

    private int gradeBy(int route, int grade, int more) {
        List<Integer> kept = kept(route, grade, more);
        int sum = kept.stream().mapToInt(g -> g).sum();
        int best = 0;
        for (int g = 1; g <= 29; g++) {
            // |g - mean| against |best - mean|, without fractions
            if (Math.abs(g * kept.size() - sum) <= Math.abs(best * kept.size() - sum)) {
                best = g;
            }
        }
        return best;
    }

    public int grade(int route) {
        index(route, s.routes);
        return gradeBy(route, 0, 0);
    }

    public int meanGrade(int route, boolean denominator) {
        index(route, s.routes);
        List<Integer> kept = kept(route, 0, 0);
        int sum = kept.stream().mapToInt(g -> g).sum();
        int gcd = java.math.BigInteger.valueOf(sum).gcd(java.math.BigInteger.valueOf(kept.size()))
                .intValue();
        return (denominator ? kept.size() : sum) / gcd;
    }

    public int voteOf(int member, int route) {
        index(member, s.members);
        index(route, s.routes);
        Integer vote = s.routes.get(route).votes[member];
        element(vote == null);
        return vote;
    }

    public int gradeWith(int route, int grade, int votes) {
        index(route, s.routes);
        argument(grade < 0 || grade > 29 || votes < 1 || votes > 20);
        return gradeBy(route, grade, votes);
    }

    public int votesTo(int route, int grade) {
        index(route, s.routes);
        argument(grade < 0 || grade > 29);
        int votes = 0;
        while (gradeBy(route, grade, votes) != grade) {
            element(++votes > 20);
        }
        return votes;
    }

    public int disputed() {
        int best = -1;
        int route = -1;
        for (int i = 0; i < s.routes.size(); i++) {
            List<Integer> votes = votes(s.routes.get(i));
            if (votes.size() >= 2 && Collections.max(votes) - Collections.min(votes) > best) {
                best = Collections.max(votes) - Collections.min(votes);
                route = i;
            }
        }
        element(route < 0);
        return route;
    }

    public int hardest(int wall) {
        index(wall, s.walls);
        int best = -1;
        for (int i = 0; i < s.routes.size(); i++) {
            if (s.routes.get(i).wall == wall && (best < 0 || grade(i) > grade(best))) {
                best = i;
            }
        }
        element(best < 0);
        return best;
    }

    public int climbsLeft(int route) {
        index(route, s.routes);
        int climbs = 0;
        for (int wear = s.routes.get(route).wear; wear < s.wear; wear += 1 + grade(route) / 10) {
            climbs++;
        }
        return climbs;
    }

    public double averageGrade() {
        element(s.routes.isEmpty());
        double sum = 0;
        for (int i = 0; i < s.routes.size(); i++) {
            sum += grade(i);
        }
        return sum / s.routes.size();
    }

    // ---- Resets

    private boolean closedOn(int wall, int day) {
        for (int reset = s.walls.get(wall).reset; reset <= day; reset += s.walls.get(wall).period) {
            if (reset == day) {
                return true;
            }
        }
        return false;
    }

    private int open(int day) {
        int set = 0;
        for (int w = 0; w < s.walls.size(); w++) {
            set |= closedOn(w, day) ? 0 : 1 << w;
        }
        return set;
    }

    public int openWalls(int day) {
        argument(day < s.day || day > 9999);
        return open(day);
    }

    public int worstDay(int days) {
        argument(days < 1 || days > 365);
        int best = s.day;
        for (int day = s.day; day < s.day + days; day++) {
            best = Integer.bitCount(open(day)) < Integer.bitCount(open(best)) ? day : best;
        }
        return best;
    }

    public int shiftFor(int wall) {
        index(wall, s.walls);
        for (int shift = 0; shift <= 14; shift++) {
            int all = (1 << s.walls.size()) - 1;
            if ((open(s.walls.get(wall).reset + shift) | 1 << wall) == all) {
                return shift;
            }
        }
        throw new NoSuchElementException();
    }

    // ---- Harnesses and ladder

    public int lendable(int size) {
        argument(size < 0 || size > 3);
        int set = 0;
        for (int h = 0; h < s.harnesses.size(); h++) {
            boolean free = harness(h, 4) == 0 && harness(h, 5) == 1;
            set |= s.harnesses.get(h).size == size && free ? 1 << h : 0;
        }
        return set;
    }

    public int lapsing(int days) {
        argument(days < 0 || days > 365);
        int set = 0;
        for (int h = 0; h < s.harnesses.size(); h++) {
            set |= !s.harnesses.get(h).retired && !inForce(h, s.day + days) ? 1 << h : 0;
        }
        return set;
    }

    public int checksNeeded(int size, int days) {
        argument(size < 0 || size > 3 || days < 1 || days > 365);
        List<Harness> all = new ArrayList<>();
        for (Harness h : s.copy().harnesses) {
            if (h.size == size && !h.retired) {
                all.add(h);
            }
        }
        element(all.isEmpty());
        int checks = 0;
        for (int i = 0; i < days; i++) {
            int day = s.day + i;
            if (all.stream().noneMatch(h -> day < h.checked + h.validity)) {
                Harness best = all.get(0);
                for (Harness h : all) {
                    best = h.validity > best.validity ? h : best;
                }
                best.checked = day;
                checks++;
            }
        }
        return checks;
    }

    public int allowedRoutes(int member) {
        index(member, s.members);
        int set = 0;
        for (int r = 0; r < s.routes.size(); r++) {
            set |= allowed(member, r) ? 1 << r : 0;
        }
        return set;
    }

    public int ladder(int member, int level) {
        index(member, s.members);
        argument(level < 0 || level > 5);
        int need = 0;
        for (int l = s.members.get(member).level + 1; l <= level; l++) {
            int step = l;
            need = Math.max(need, s.courses.stream().filter(c -> c.level == step)
                    .mapToInt(c -> c.climbs).min().orElseThrow(NoSuchElementException::new));
        }
        return Math.max(0, need - s.members.get(member).climbs);
    }

    // ---- Exceptions

    private static int part(int what, int... parts) {
        argument(what < 0 || what >= parts.length);
        return parts[what];
    }

    private static void index(int i, List<?> of) {
        if (i < 0 || i >= of.size()) {
            throw new IndexOutOfBoundsException();
        }
    }

    private static void argument(boolean wrong) {
        if (wrong) {
            throw new IllegalArgumentException();
        }
    }

    private static void state(boolean wrong) {
        if (wrong) {
            throw new IllegalStateException();
        }
    }

    private static void element(boolean wrong) {
        if (wrong) {
            throw new NoSuchElementException();
        }
    }
}
