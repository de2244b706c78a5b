import java.util.NoSuchElementException;

/**
 * A climbing hall: walls that are reset on certain days, routes with wear and grades by votes,
 * harnesses that are lent only while their check is in force, members who climb, and courses that
 * lead up a ladder of levels.
 *
 * <p>The public methods look at their arguments and throw; what they ask and change stands in the
 * classes below: Hall (sections 1 to 6 of the document), Ballot (section 3), SetupText (section 7)
 * and History (section 8), all of them on rows of numbers (Table).
 */
public final class ClimbingHall {
    /** There is no such value. */
    public static final int NONE = -1;

    private static final int MOST_WALLS = 8;
    private static final int MOST_ROUTES = 24;
    private static final int MOST_ROUTES_ON_A_WALL = 5;
    private static final int MOST_HARNESSES = 15;
    private static final int MOST_MEMBERS = 12;
    private static final int MOST_COURSES = 8;
    private static final int MOST_ARCHIVED = 30;
    private static final int MOST_UNDOS = 8;
    private static final int MOST_BYTES = 600;
    private static final int MOST_DIGITS = 3;
    private static final int MOST_MORE_VOTES = 20;

    private static final int LAST_DAY = 9999;
    private static final int GREATEST_GRADE = 29;
    private static final int GREATEST_LEVEL = 5;
    private static final int GREATEST_SIZE = 3;
    private static final int GREATEST_POSTPONEMENT = 14;
    private static final int DAYS_AHEAD = 365;
    private static final int MOST_DAYS_ENDED = 60;

    private static final int USUAL_TRIM = 20;
    private static final int USUAL_SETTER_VOTES = 2;
    private static final int USUAL_WEAR_LIMIT = 50;

    // The columns of the tables. Where a method of the face asks for a part by its number, the
    // columns stand in the order of these numbers.
    private static final int WALL_HEIGHT = 0;
    private static final int WALL_LEVEL = 1;
    private static final int WALL_PERIOD = 2;
    private static final int WALL_RESET = 3;
    private static final int WALL_COLUMNS = 4;

    private static final int ROUTE_WALL = 0;
    private static final int ROUTE_SETTER = 1;
    private static final int ROUTE_DAY = 2;
    private static final int ROUTE_WEAR = 3;
    private static final int ROUTE_CLIMBS = 4;
    private static final int ROUTE_CLIMBERS = 5;
    private static final int ROUTE_VOTES = 6;
    private static final int ROUTE_COLUMNS = ROUTE_VOTES + MOST_MEMBERS;

    private static final int ARCHIVED_WALL = 0;
    private static final int ARCHIVED_GRADE = 1;
    private static final int ARCHIVED_DAY = 2;
    private static final int ARCHIVED_CLIMBS = 3;
    private static final int ARCHIVED_COLUMNS = 4;

    private static final int HARNESS_SIZE = 0;
    private static final int HARNESS_VALIDITY = 1;
    private static final int HARNESS_CHECKED = 2;
    private static final int HARNESS_RETIRED = 3;
    private static final int HARNESS_COLUMNS = 4;

    private static final int MEMBER_SIZE = 0;
    private static final int MEMBER_LEVEL = 1;
    private static final int MEMBER_CLIMBS = 2;
    private static final int MEMBER_HARNESS = 3;
    private static final int MEMBER_COURSE = 4;
    private static final int MEMBER_KEPT = 5;
    private static final int MEMBER_COLUMNS = 6;

    private static final int COURSE_LEVEL = 0;
    private static final int COURSE_SEATS = 1;
    private static final int COURSE_CLIMBS = 2;
    private static final int COURSE_COLUMNS = 3;

    private static final int HARNESS_IS_FREE = 0;
    private static final int HARNESS_IS_LENT = 1;
    private static final int HARNESS_IS_RETIRED = 2;

    private final Hall hall;
    private final SetupText text;
    private final History history;

    public ClimbingHall() {
        Ballot ballot = new Ballot();
        hall = new Hall(ballot);
        text = new SetupText(new Hall(ballot));
        history = new History(ballot);
        hall.addWall(12, 0, 7);
        hall.addWall(15, 1, 10);
        hall.addHarness(1, 30);
        hall.addHarness(1, 60);
        hall.addMember(1, 0);
        hall.addMember(1, 1);
        hall.addCourse(1, 4, 5);
    }

    // ---- Input

    public int append(int a, int b, int c, int d, int e) throws IllegalStateException {
        int more = bytesIn(a) + bytesIn(b) + bytesIn(c) + bytesIn(d) + bytesIn(e);
        if (text.length + more > MOST_BYTES) {
            throw new IllegalStateException("the input buffer would have more than 600 bytes");
        }
        text.addBytesOf(a);
        text.addBytesOf(b);
        text.addBytesOf(c);
        text.addBytesOf(d);
        text.addBytesOf(e);
        return text.length;
    }

    public int truncate(int length) throws IllegalArgumentException {
        needBetween(length, 0, text.length);
        text.length = length;
        return length;
    }

    public int errorPosition() {
        return text.readDraft();
    }

    public int load() throws IllegalArgumentException {
        if (text.readDraft() != NONE) {
            throw new IllegalArgumentException("the setup text is not valid");
        }
        hall.copyFrom(text.draft);
        history.forgetAll();
        text.length = 0;
        return hall.walls.rows;
    }

    // ---- Changes

    public int setRoute(int wall, int grade)
            throws IndexOutOfBoundsException, IllegalArgumentException, IllegalStateException {
        needRow(hall.walls, wall);
        needBetween(grade, 0, GREATEST_GRADE);
        if (hall.isClosed(wall)) {
            throw new IllegalStateException("the wall is closed today");
        }
        if (hall.routesOn(wall) >= MOST_ROUTES_ON_A_WALL || hall.routes.isFull()) {
            throw new IllegalStateException("there is no room for a route");
        }
        history.remember(hall);
        return hall.addRoute(wall, grade);
    }

    public int removeRoute(int route) throws IndexOutOfBoundsException {
        needRow(hall.routes, route);
        history.remember(hall);
        return hall.archiveRoute(route);
    }

    public int climb(int member, int route)
            throws IndexOutOfBoundsException, IllegalStateException {
        needRow(hall.members, member);
        needRow(hall.routes, route);
        if (!hall.mayClimb(member, route)) {
            throw new IllegalStateException("the member may not climb this route");
        }
        history.remember(hall);
        return hall.addClimb(member, route);
    }

    public int vote(int member, int route, int grade)
            throws IndexOutOfBoundsException, IllegalArgumentException, IllegalStateException {
        needRow(hall.members, member);
        needRow(hall.routes, route);
        needBetween(grade, 0, GREATEST_GRADE);
        if (!hall.hasClimbed(member, route)) {
            throw new IllegalStateException("the member has not climbed this route");
        }
        history.remember(hall);
        hall.routes.set(route, ROUTE_VOTES + member, grade);
        return hall.gradeOf(route);
    }

    public int lend(int member, int harness)
            throws IndexOutOfBoundsException, IllegalStateException {
        needRow(hall.members, member);
        needRow(hall.harnesses, harness);
        if (hall.harnessOf(member) != NONE) {
            throw new IllegalStateException("the member has a harness");
        }
        if (hall.members.get(member, MEMBER_SIZE) != hall.harnesses.get(harness, HARNESS_SIZE)) {
            throw new IllegalStateException("the sizes are different");
        }
        if (!hall.isLendable(harness)) {
            throw new IllegalStateException("the harness is lent or has no check in force");
        }
        history.remember(hall);
        hall.members.set(member, MEMBER_HARNESS, harness);
        return hall.lapseOf(harness);
    }

    public int giveBack(int member) throws IndexOutOfBoundsException, IllegalStateException {
        needRow(hall.members, member);
        int harness = hall.harnessOf(member);
        if (harness == NONE) {
            throw new IllegalStateException("the member has no harness");
        }
        history.remember(hall);
        hall.members.set(member, MEMBER_HARNESS, NONE);
        return harness;
    }

    public int check(int harness, boolean good)
            throws IndexOutOfBoundsException, IllegalStateException {
        needRow(hall.harnesses, harness);
        if (hall.stateOf(harness) != HARNESS_IS_FREE) {
            throw new IllegalStateException("the harness is lent or retired");
        }
        history.remember(hall);
        hall.addCheck(harness, good);
        return good ? hall.lapseOf(harness) : NONE;
    }

    public int enroll(int member, int course)
            throws IndexOutOfBoundsException, IllegalStateException {
        needRow(hall.members, member);
        needRow(hall.courses, course);
        if (!hall.mayEnroll(member, course)) {
            throw new IllegalStateException("the member may not enroll in this course");
        }
        history.remember(hall);
        hall.members.set(member, MEMBER_COURSE, course);
        return Integer.bitCount(hall.membersIn(course));
    }

    public int leaveCourse(int member) throws IndexOutOfBoundsException, IllegalStateException {
        needRow(hall.members, member);
        int course = hall.members.get(member, MEMBER_COURSE);
        if (course == NONE) {
            throw new IllegalStateException("the member is in no course");
        }
        history.remember(hall);
        hall.members.set(member, MEMBER_COURSE, NONE);
        return course;
    }

    public int finish(int course, int passed) throws IndexOutOfBoundsException {
        needRow(hall.courses, course);
        history.remember(hall);
        return hall.endCourse(course, passed);
    }

    public int postpone(int wall, int days)
            throws IndexOutOfBoundsException, IllegalArgumentException {
        needRow(hall.walls, wall);
        needBetween(days, 1, GREATEST_POSTPONEMENT);
        history.remember(hall);
        hall.walls.add(wall, WALL_RESET, days);
        return hall.walls.get(wall, WALL_RESET);
    }

    public int endDays(int days) throws IllegalArgumentException {
        needBetween(days, 1, MOST_DAYS_ENDED);
        needBetween(hall.day + days, 1, LAST_DAY);
        history.remember(hall);
        int archived = 0;
        for (int ended = 0; ended < days; ended++) {
            archived += hall.endDay();
        }
        return archived;
    }

    // ---- History

    public int undo() throws IllegalStateException {
        if (history.undos == 0) {
            throw new IllegalStateException("there is no change to undo");
        }
        history.takeBack(hall);
        return history.undos;
    }

    public int undoCount() {
        return history.undos;
    }

    public int save() {
        history.keepCopy(hall);
        return hall.day;
    }

    public int restore() throws IllegalStateException {
        if (!history.hasCopy) {
            throw new IllegalStateException("there is no saved copy");
        }
        history.bringBackCopy(hall);
        return hall.day;
    }

    // ---- Hall

    public int count(int what) throws IllegalArgumentException {
        needBetween(what, 0, 9);
        switch (what) {
            case 0: return hall.walls.rows;
            case 1: return hall.routes.rows;
            case 2: return hall.harnesses.rows;
            case 3: return hall.members.rows;
            case 4: return hall.courses.rows;
            case 5: return hall.archive.rows;
            case 6: return hall.day;
            case 7: return hall.trim;
            case 8: return hall.setterVotes;
            default: return hall.wearLimit;
        }
    }

    public int wall(int wall, int what)
            throws IndexOutOfBoundsException, IllegalArgumentException {
        needRow(hall.walls, wall);
        needBetween(what, 0, 5);
        switch (what) {
            case 4: return hall.routesOn(wall);
            case 5: return hall.isClosed(wall) ? 1 : 0;
            default: return hall.walls.get(wall, what);
        }
    }

    public int route(int route, int what)
            throws IndexOutOfBoundsException, IllegalArgumentException {
        needRow(hall.routes, route);
        needBetween(what, 0, 6);
        switch (what) {
            case 5: return hall.votesFor(route);
            case 6: return hall.isWorn(route) ? 1 : 0;
            default: return hall.routes.get(route, what);
        }
    }

    public int archived(int index, int what)
            throws IndexOutOfBoundsException, IllegalArgumentException {
        needRow(hall.archive, index);
        needBetween(what, 0, 3);
        return hall.archive.get(index, what);
    }

    public int member(int member, int what)
            throws IndexOutOfBoundsException, IllegalArgumentException {
        needRow(hall.members, member);
        needBetween(what, 0, 5);
        return hall.members.get(member, what);
    }

    public int harness(int harness, int what)
            throws IndexOutOfBoundsException, IllegalArgumentException {
        needRow(hall.harnesses, harness);
        needBetween(what, 0, 5);
        switch (what) {
            case 3: return hall.lapseOf(harness);
            case 4: return hall.stateOf(harness);
            case 5: return hall.isInForce(harness, hall.day) ? 1 : 0;
            default: return hall.harnesses.get(harness, what);
        }
    }

    public int course(int course, int what)
            throws IndexOutOfBoundsException, IllegalArgumentException {
        needRow(hall.courses, course);
        needBetween(what, 0, 3);
        return what == 3 ? hall.membersIn(course) : hall.courses.get(course, what);
    }

    public int bill(int member, int climb, int late)
            throws IndexOutOfBoundsException, ArithmeticException {
        needRow(hall.members, member);
        long climbs = (long) hall.members.get(member, MEMBER_CLIMBS) * climb;
        long kept = (long) hall.members.get(member, MEMBER_KEPT) * late;
        needInt(climbs);
        needInt(kept);
        needInt(climbs + kept);
        return (int) (climbs + kept);
    }

    // ---- Grades

    public int grade(int route) throws IndexOutOfBoundsException {
        needRow(hall.routes, route);
        return hall.gradeOf(route);
    }

    public int meanGrade(int route, boolean denominator) throws IndexOutOfBoundsException {
        needRow(hall.routes, route);
        return hall.meanOf(route, denominator);
    }

    public int voteOf(int member, int route)
            throws IndexOutOfBoundsException, NoSuchElementException {
        needRow(hall.members, member);
        needRow(hall.routes, route);
        int vote = hall.routes.get(route, ROUTE_VOTES + member);
        if (vote == NONE) {
            throw new NoSuchElementException("the member has not voted for this route");
        }
        return vote;
    }

    public int gradeWith(int route, int grade, int votes)
            throws IndexOutOfBoundsException, IllegalArgumentException {
        needRow(hall.routes, route);
        needBetween(grade, 0, GREATEST_GRADE);
        needBetween(votes, 1, MOST_MORE_VOTES);
        return hall.gradeWithMore(route, grade, votes);
    }

    public int votesTo(int route, int grade)
            throws IndexOutOfBoundsException, IllegalArgumentException, NoSuchElementException {
        needRow(hall.routes, route);
        needBetween(grade, 0, GREATEST_GRADE);
        for (int votes = 0; votes <= MOST_MORE_VOTES; votes++) {
            if (hall.gradeWithMore(route, grade, votes) == grade) {
                return votes;
            }
        }
        throw new NoSuchElementException("20 votes do not suffice");
    }

    public int disputed() throws NoSuchElementException {
        return needFound(hall.mostDisputed());
    }

    public int hardest(int wall) throws IndexOutOfBoundsException, NoSuchElementException {
        needRow(hall.walls, wall);
        return needFound(hall.hardestOn(wall));
    }

    public int climbsLeft(int route) throws IndexOutOfBoundsException {
        needRow(hall.routes, route);
        return hall.climbsUntilWorn(route);
    }

    public double averageGrade() throws NoSuchElementException {
        int routes = hall.routes.rows;
        if (routes <= 0) {
            throw new NoSuchElementException("there are no routes");
        }
        double sum = 0;
        for (int route = 0; route < routes; route++) {
            sum += hall.gradeOf(route);
        }
        return sum / routes;
    }

    // ---- Resets

    public int openWalls(int day) throws IllegalArgumentException {
        needBetween(day, hall.day, LAST_DAY);
        return hall.openOn(day);
    }

    public int worstDay(int days) throws IllegalArgumentException {
        needBetween(days, 1, DAYS_AHEAD);
        return hall.dayWithFewestOpen(days);
    }

    public int shiftFor(int wall) throws IndexOutOfBoundsException, NoSuchElementException {
        needRow(hall.walls, wall);
        return needFound(hall.leastShift(wall));
    }

    // ---- Harnesses and ladder

    public int lendable(int size) throws IllegalArgumentException {
        needBetween(size, 0, GREATEST_SIZE);
        return hall.lendableOf(size);
    }

    public int lapsing(int days) throws IllegalArgumentException {
        needBetween(days, 0, DAYS_AHEAD);
        return hall.lapsedOn(hall.day + days);
    }

    public int checksNeeded(int size, int days)
            throws IllegalArgumentException, NoSuchElementException {
        needBetween(size, 0, GREATEST_SIZE);
        needBetween(days, 1, DAYS_AHEAD);
        return hall.checksBy(needFound(hall.longestValid(size)), days);
    }

    public int allowedRoutes(int member) throws IndexOutOfBoundsException {
        needRow(hall.members, member);
        return hall.routesFor(member);
    }

    public int ladder(int member, int level)
            throws IndexOutOfBoundsException, IllegalArgumentException, NoSuchElementException {
        needRow(hall.members, member);
        needBetween(level, 0, GREATEST_LEVEL);
        int most = 0;
        for (int step = hall.members.get(member, MEMBER_LEVEL) + 1; step <= level; step++) {
            most = Math.max(most, needFound(hall.leastClimbs(step)));
        }
        return Math.max(0, most - hall.members.get(member, MEMBER_CLIMBS));
    }

    // ---- What the methods above look at

    private static void needRow(Table table, int row) {
        if (!table.hasRow(row)) {
            throw new IndexOutOfBoundsException("there is none of this number");
        }
    }

    private static void needBetween(int value, int least, int greatest) {
        if (value < least || value > greatest) {
            throw new IllegalArgumentException("the number is out of its range");
        }
    }

    private static void needInt(long value) {
        if (value != (int) value) {
            throw new ArithmeticException("the amount is not an int");
        }
    }

    private static int needFound(int value) {
        if (value == NONE) {
            throw new NoSuchElementException("there is no such value");
        }
        return value;
    }

    private static int bytesIn(int four) {
        int bytes = 0;
        for (int shift = 24; shift >= 0; shift -= 8) {
            if (((four >>> shift) & 255) != 0) {
                bytes++;
            }
        }
        return bytes;
    }

    /** Rows of numbers in a room of fixed size, so that copies need no new room. */
    private static final class Table {
        private final int mostRows;
        private final int columns;
        private final int[] cells;
        private int rows = 0;

        Table(int mostRows, int columns) {
            this.mostRows = mostRows;
            this.columns = columns;
            this.cells = new int[Math.max(0, mostRows * columns)];
        }

        boolean hasRow(int row) {
            return row >= 0 && row < rows;
        }

        boolean isFull() {
            return rows >= mostRows;
        }

        void clear() {
            rows = 0;
        }

        /** The number in a cell; 0 if there is no such cell. */
        int get(int row, int column) {
            if (row < 0 || row >= rows || column < 0 || column >= columns) {
                return 0;
            }
            int place = row * columns + column;
            return place >= 0 && place < cells.length ? cells[place] : 0;
        }

        void set(int row, int column, int value) {
            if (row < 0 || row >= rows || column < 0 || column >= columns) {
                return;
            }
            int place = row * columns + column;
            if (place >= 0 && place < cells.length) {
                cells[place] = value;
            }
        }

        void add(int row, int column, int more) {
            set(row, column, get(row, column) + more);
        }

        /** Adds a row of zeros behind the others; answers its number, NONE if there is no room. */
        int addRow() {
            if (isFull()) {
                return NONE;
            }
            int row = rows;
            rows++;
            for (int column = 0; column < columns; column++) {
                set(row, column, 0);
            }
            return row;
        }

        /** Takes a row out; those behind it move up. */
        void removeRow(int row) {
            if (!hasRow(row)) {
                return;
            }
            for (int place = row * columns; place + columns < cells.length; place++) {
                cells[place] = cells[place + columns];
            }
            rows--;
        }

        void copyFrom(Table other) {
            rows = other.rows;
            System.arraycopy(other.cells, 0, cells, 0,
                    Math.min(other.cells.length, cells.length));
        }
    }

    /** The grades that count for a route, by how many there are of each (section 3). */
    private static final class Ballot {
        private final int[] numberOf = new int[GREATEST_GRADE + 1];
        private int size = 0;
        // The sum of the grades that are not dropped, and how many these are.
        private int keptSum = 0;
        private int kept = 0;

        void clear() {
            size = 0;
            for (int grade = 0; grade < numberOf.length; grade++) {
                numberOf[grade] = 0;
            }
        }

        void addVotes(int grade, int votes) {
            if (grade >= 0 && grade < numberOf.length) {
                numberOf[grade] += votes;
                size += votes;
            }
        }

        /** Drops a part, in percent, at each end and adds up the others. */
        void trimEnds(int percent) {
            int first = size * percent / 100;
            int behindLast = size - first;
            kept = behindLast - first;
            keptSum = 0;
            int seen = 0;
            for (int grade = 0; grade < numberOf.length; grade++) {
                int from = seen > first ? seen : first;
                seen += numberOf[grade];
                int to = seen < behindLast ? seen : behindLast;
                if (to > from) {
                    keptSum += (to - from) * grade;
                }
            }
        }

        /** The whole number nearest to the trimmed mean, the greater one of two. */
        int nearestGrade() {
            return kept > 0 ? (2 * keptSum + kept) / (2 * kept) : 0;
        }
    }

    /** All that a hall consists of, with its rules (sections 1 to 6). */
    private static final class Hall {
        private final Table walls = new Table(MOST_WALLS, WALL_COLUMNS);
        private final Table routes = new Table(MOST_ROUTES, ROUTE_COLUMNS);
        private final Table archive = new Table(MOST_ARCHIVED, ARCHIVED_COLUMNS);
        private final Table harnesses = new Table(MOST_HARNESSES, HARNESS_COLUMNS);
        private final Table members = new Table(MOST_MEMBERS, MEMBER_COLUMNS);
        private final Table courses = new Table(MOST_COURSES, COURSE_COLUMNS);
        // Only a place to count in: it holds nothing from one call to the next, so halls share it.
        private final Ballot ballot;
        private int day = 0;
        private int trim = USUAL_TRIM;
        private int setterVotes = USUAL_SETTER_VOTES;
        private int wearLimit = USUAL_WEAR_LIMIT;

        Hall(Ballot ballot) {
            this.ballot = ballot;
        }

        void copyFrom(Hall other) {
            walls.copyFrom(other.walls);
            routes.copyFrom(other.routes);
            archive.copyFrom(other.archive);
            harnesses.copyFrom(other.harnesses);
            members.copyFrom(other.members);
            courses.copyFrom(other.courses);
            day = other.day;
            setRules(other.trim, other.setterVotes, other.wearLimit);
        }

        // ---- Setup

        /** Makes it the hall of a text without statements. */
        void clear() {
            walls.clear();
            routes.clear();
            archive.clear();
            harnesses.clear();
            members.clear();
            courses.clear();
            day = 0;
            setRules(USUAL_TRIM, USUAL_SETTER_VOTES, USUAL_WEAR_LIMIT);
        }

        void setRules(int trim, int setterVotes, int wearLimit) {
            this.trim = trim;
            this.setterVotes = setterVotes;
            this.wearLimit = wearLimit;
        }

        void addWall(int height, int level, int period) {
            int wall = walls.addRow();
            walls.set(wall, WALL_HEIGHT, height);
            walls.set(wall, WALL_LEVEL, level);
            walls.set(wall, WALL_PERIOD, period);
            walls.set(wall, WALL_RESET, period);
        }

        void addHarness(int size, int validity) {
            int harness = harnesses.addRow();
            harnesses.set(harness, HARNESS_SIZE, size);
            harnesses.set(harness, HARNESS_VALIDITY, validity);
        }

        void addMember(int size, int level) {
            int member = members.addRow();
            members.set(member, MEMBER_SIZE, size);
            members.set(member, MEMBER_LEVEL, level);
            members.set(member, MEMBER_HARNESS, NONE);
            members.set(member, MEMBER_COURSE, NONE);
        }

        void addCourse(int level, int seats, int climbs) {
            int course = courses.addRow();
            courses.set(course, COURSE_LEVEL, level);
            courses.set(course, COURSE_SEATS, seats);
            courses.set(course, COURSE_CLIMBS, climbs);
        }

        // ---- Routes

        int routesOn(int wall) {
            int number = 0;
            for (int route = 0; route < routes.rows; route++) {
                if (routes.get(route, ROUTE_WALL) == wall) {
                    number++;
                }
            }
            return number;
        }

        int addRoute(int wall, int grade) {
            int route = routes.addRow();
            routes.set(route, ROUTE_WALL, wall);
            routes.set(route, ROUTE_SETTER, grade);
            routes.set(route, ROUTE_DAY, day);
            for (int member = 0; member < MOST_MEMBERS; member++) {
                routes.set(route, ROUTE_VOTES + member, NONE);
            }
            return route;
        }

        /** Moves a route to the archive; answers its grade. */
        int archiveRoute(int route) {
            int grade = gradeOf(route);
            if (archive.isFull()) {
                archive.removeRow(0);
            }
            int index = archive.addRow();
            archive.set(index, ARCHIVED_WALL, routes.get(route, ROUTE_WALL));
            archive.set(index, ARCHIVED_GRADE, grade);
            archive.set(index, ARCHIVED_DAY, day);
            archive.set(index, ARCHIVED_CLIMBS, routes.get(route, ROUTE_CLIMBS));
            routes.removeRow(route);
            return grade;
        }

        boolean isWorn(int route) {
            return routes.get(route, ROUTE_WEAR) >= wearLimit;
        }

        boolean mayClimb(int member, int route) {
            int wall = routes.get(route, ROUTE_WALL);
            int harness = harnessOf(member);
            return !isClosed(wall)
                    && members.get(member, MEMBER_LEVEL) >= walls.get(wall, WALL_LEVEL)
                    && harness != NONE
                    && isInForce(harness, day)
                    && !isWorn(route);
        }

        int routesFor(int member) {
            int set = 0;
            for (int route = 0; route < routes.rows; route++) {
                if (mayClimb(member, route)) {
                    set |= 1 << route;
                }
            }
            return set;
        }

        boolean hasClimbed(int member, int route) {
            return ((routes.get(route, ROUTE_CLIMBERS) >>> member) & 1) == 1;
        }

        /** How much wear a climb adds. */
        private int wearOfClimb(int route) {
            return 1 + gradeOf(route) / 10;
        }

        int addClimb(int member, int route) {
            int climbers = routes.get(route, ROUTE_CLIMBERS);
            routes.set(route, ROUTE_CLIMBERS, climbers | (1 << member));
            routes.add(route, ROUTE_WEAR, wearOfClimb(route));
            routes.add(route, ROUTE_CLIMBS, 1);
            members.add(member, MEMBER_CLIMBS, 1);
            return routes.get(route, ROUTE_WEAR);
        }

        int climbsUntilWorn(int route) {
            int left = wearLimit - routes.get(route, ROUTE_WEAR);
            int each = wearOfClimb(route);
            return left > 0 && each > 0 ? (left + each - 1) / each : 0;
        }

        // ---- Grades

        private void fillBallot(int route, int grade, int moreVotes) {
            int setterGrade = routes.get(route, ROUTE_SETTER);
            ballot.clear();
            ballot.addVotes(setterGrade, setterVotes);
            for (int member = 0; member < members.rows; member++) {
                // A member without a vote has NONE here, which is no grade of a ballot.
                ballot.addVotes(routes.get(route, ROUTE_VOTES + member), 1);
            }
            ballot.addVotes(grade, moreVotes);
            if (ballot.size == 0) {
                ballot.addVotes(setterGrade, 1);
            }
            ballot.trimEnds(trim);
        }

        int gradeWithMore(int route, int grade, int moreVotes) {
            fillBallot(route, grade, moreVotes);
            return ballot.nearestGrade();
        }

        int gradeOf(int route) {
            fillBallot(route, 0, 0);
            return ballot.nearestGrade();
        }

        /** The numerator or the denominator of the trimmed mean in lowest terms. */
        int meanOf(int route, boolean denominator) {
            fillBallot(route, 0, 0);
            int part = denominator ? ballot.kept : ballot.keptSum;
            for (int divisor = ballot.kept; divisor > 1; divisor--) {
                if (ballot.kept % divisor == 0 && ballot.keptSum % divisor == 0) {
                    return part / divisor;
                }
            }
            return part;
        }

        int votesFor(int route) {
            int votes = 0;
            for (int member = 0; member < members.rows; member++) {
                if (routes.get(route, ROUTE_VOTES + member) != NONE) {
                    votes++;
                }
            }
            return votes;
        }

        /** The greatest difference of two votes; NONE if there are fewer than two. */
        private int disputeOf(int route) {
            int least = GREATEST_GRADE;
            int greatest = 0;
            for (int member = 0; member < members.rows; member++) {
                int vote = routes.get(route, ROUTE_VOTES + member);
                if (vote != NONE) {
                    least = Math.min(least, vote);
                    greatest = Math.max(greatest, vote);
                }
            }
            return votesFor(route) >= 2 ? greatest - least : NONE;
        }

        /** The route with the greatest dispute; NONE if no route has two votes. */
        int mostDisputed() {
            int found = NONE;
            int greatest = NONE;
            for (int route = 0; route < routes.rows; route++) {
                int dispute = disputeOf(route);
                if (dispute > greatest) {
                    found = route;
                    greatest = dispute;
                }
            }
            return found;
        }

        /** The route with the greatest grade on a wall; NONE if it has no route. */
        int hardestOn(int wall) {
            int found = NONE;
            int greatest = NONE;
            for (int route = 0; route < routes.rows; route++) {
                if (routes.get(route, ROUTE_WALL) == wall && gradeOf(route) > greatest) {
                    found = route;
                    greatest = gradeOf(route);
                }
            }
            return found;
        }

        // ---- Harnesses

        int harnessOf(int member) {
            return members.get(member, MEMBER_HARNESS);
        }

        private boolean isRetired(int harness) {
            return harnesses.get(harness, HARNESS_RETIRED) != 0;
        }

        private boolean isLent(int harness) {
            for (int member = 0; member < members.rows; member++) {
                if (harnessOf(member) == harness) {
                    return true;
                }
            }
            return false;
        }

        int stateOf(int harness) {
            if (isRetired(harness)) {
                return HARNESS_IS_RETIRED;
            }
            return isLent(harness) ? HARNESS_IS_LENT : HARNESS_IS_FREE;
        }

        int lapseOf(int harness) {
            return harnesses.get(harness, HARNESS_CHECKED)
                    + harnesses.get(harness, HARNESS_VALIDITY);
        }

        boolean isInForce(int harness, int onDay) {
            return !isRetired(harness) && onDay < lapseOf(harness);
        }

        boolean isLendable(int harness) {
            return stateOf(harness) == HARNESS_IS_FREE && isInForce(harness, day);
        }

        void addCheck(int harness, boolean good) {
            harnesses.set(harness, HARNESS_CHECKED, day);
            harnesses.set(harness, HARNESS_RETIRED, good ? 0 : 1);
        }

        int lendableOf(int size) {
            int set = 0;
            for (int harness = 0; harness < harnesses.rows; harness++) {
                if (harnesses.get(harness, HARNESS_SIZE) == size && isLendable(harness)) {
                    set |= 1 << harness;
                }
            }
            return set;
        }

        int lapsedOn(int onDay) {
            int set = 0;
            for (int harness = 0; harness < harnesses.rows; harness++) {
                if (!isRetired(harness) && !isInForce(harness, onDay)) {
                    set |= 1 << harness;
                }
            }
            return set;
        }

        /** The unretired harness of a size with the greatest validity; NONE without one. */
        int longestValid(int size) {
            int found = NONE;
            int greatest = 0;
            for (int harness = 0; harness < harnesses.rows; harness++) {
                int validity = harnesses.get(harness, HARNESS_VALIDITY);
                if (harnesses.get(harness, HARNESS_SIZE) == size && !isRetired(harness)
                        && validity > greatest) {
                    found = harness;
                    greatest = validity;
                }
            }
            return found;
        }

        /** The first day on which no harness of the size has a check in force any more. */
        private int lastLapse(int size) {
            int last = 0;
            for (int harness = 0; harness < harnesses.rows; harness++) {
                if (harnesses.get(harness, HARNESS_SIZE) == size && !isRetired(harness)) {
                    last = Math.max(last, lapseOf(harness));
                }
            }
            return last;
        }

        /** How often a harness must be checked so that one of its size is always in force. */
        int checksBy(int harness, int days) {
            int lapse = lastLapse(harnesses.get(harness, HARNESS_SIZE));
            int checks = 0;
            for (int ahead = 0; ahead < days; ahead++) {
                if (day + ahead >= lapse) {
                    checks++;
                    lapse = day + ahead + harnesses.get(harness, HARNESS_VALIDITY);
                }
            }
            return checks;
        }

        // ---- Resets and days

        boolean isClosed(int wall) {
            return walls.get(wall, WALL_RESET) == day;
        }

        /** Whether a wall is closed on a day, today or later, if nothing is postponed. */
        private boolean isClosedOn(int wall, int onDay) {
            int behindReset = onDay - walls.get(wall, WALL_RESET);
            int period = walls.get(wall, WALL_PERIOD);
            return behindReset >= 0 && period > 0 && behindReset % period == 0;
        }

        int openOn(int onDay) {
            int set = 0;
            for (int wall = 0; wall < walls.rows; wall++) {
                if (!isClosedOn(wall, onDay)) {
                    set |= 1 << wall;
                }
            }
            return set;
        }

        int dayWithFewestOpen(int days) {
            int found = day;
            int fewest = Integer.bitCount(openOn(day));
            for (int ahead = 1; ahead < days; ahead++) {
                int open = Integer.bitCount(openOn(day + ahead));
                if (open < fewest) {
                    found = day + ahead;
                    fewest = open;
                }
            }
            return found;
        }

        private boolean isAnotherClosedOn(int wall, int onDay) {
            for (int other = 0; other < walls.rows; other++) {
                if (other != wall && isClosedOn(other, onDay)) {
                    return true;
                }
            }
            return false;
        }

        /** The least postponement that leaves a wall alone on its reset; NONE if there is none. */
        int leastShift(int wall) {
            for (int shift = 0; shift <= GREATEST_POSTPONEMENT; shift++) {
                if (!isAnotherClosedOn(wall, walls.get(wall, WALL_RESET) + shift)) {
                    return shift;
                }
            }
            return NONE;
        }

        /** Resets a wall; answers how many routes went to the archive. */
        private int resetWall(int wall) {
            int archived = 0;
            int kept = 0;
            int before = routes.rows;
            for (int seen = 0; seen < before; seen++) {
                if (routes.get(kept, ROUTE_WALL) == wall) {
                    archiveRoute(kept);
                    archived++;
                } else {
                    kept++;
                }
            }
            walls.set(wall, WALL_RESET, day + walls.get(wall, WALL_PERIOD));
            return archived;
        }

        /** Ends today; answers how many routes went to the archive. */
        int endDay() {
            int archived = 0;
            for (int wall = 0; wall < walls.rows; wall++) {
                if (isClosed(wall)) {
                    archived += resetWall(wall);
                }
            }
            for (int member = 0; member < members.rows; member++) {
                if (harnessOf(member) != NONE) {
                    members.add(member, MEMBER_KEPT, 1);
                }
            }
            day++;
            return archived;
        }

        // ---- Ladder

        int membersIn(int course) {
            int set = 0;
            for (int member = 0; member < members.rows; member++) {
                if (members.get(member, MEMBER_COURSE) == course) {
                    set |= 1 << member;
                }
            }
            return set;
        }

        boolean mayEnroll(int member, int course) {
            return members.get(member, MEMBER_COURSE) == NONE
                    && members.get(member, MEMBER_LEVEL) == courses.get(course, COURSE_LEVEL) - 1
                    && members.get(member, MEMBER_CLIMBS) >= courses.get(course, COURSE_CLIMBS)
                    && Integer.bitCount(membersIn(course)) < courses.get(course, COURSE_SEATS);
        }

        /** Empties a course; answers how many of its members passed and got its level. */
        int endCourse(int course, int passed) {
            int risen = 0;
            int set = membersIn(course);
            for (int member = 0; member < members.rows; member++) {
                if (((set >>> member) & 1) == 1) {
                    members.set(member, MEMBER_COURSE, NONE);
                    if (((passed >>> member) & 1) == 1) {
                        members.set(member, MEMBER_LEVEL, courses.get(course, COURSE_LEVEL));
                        risen++;
                    }
                }
            }
            return risen;
        }

        /** The least number of climbs that a course of a level needs; NONE without a course. */
        int leastClimbs(int level) {
            int least = NONE;
            for (int course = 0; course < courses.rows; course++) {
                int climbs = courses.get(course, COURSE_CLIMBS);
                if (courses.get(course, COURSE_LEVEL) == level
                        && (least == NONE || climbs < least)) {
                    least = climbs;
                }
            }
            return least;
        }
    }

    /** The input buffer, and how it is read as a setup text (section 7). */
    private static final class SetupText {
        private static final int RULES = 0;
        private static final int WALL = 1;
        private static final int HARNESS = 2;
        private static final int MEMBER = 3;
        private static final int COURSE = 4;
        private static final int KINDS = 5;
        // How many numbers stand behind the word, then three ranges, for each kind.
        private static final int[] NUMBERS = {3, 3, 2, 2, 3};
        private static final int[] LEAST = {0, 0, 1, 3, 0, 1, 0, 1, 0, 0, 0, 0, 1, 1, 0};
        private static final int[] GREATEST = {
            40, 10, 200, 30, 5, 60, 3, 365, 0, 3, 5, 0, 5, 12, 200
        };
        private static final int MOST_NUMBERS = 3;

        private final int[] bytes = new int[MOST_BYTES];
        private int length = 0;
        // What the text says is written here, so that the hall stays as it is if there is an error.
        private final Hall draft;
        private final int[] numbers = new int[MOST_NUMBERS];
        private boolean hasRules = false;
        private int tokenStart = 0;
        private int tokenEnd = 0;

        SetupText(Hall draft) {
            this.draft = draft;
        }

        void addBytesOf(int four) {
            for (int shift = 24; shift >= 0; shift -= 8) {
                int one = (four >>> shift) & 255;
                if (one != 0 && length >= 0 && length < bytes.length) {
                    bytes[length] = one;
                    length++;
                }
            }
        }

        /** The byte at an offset; 0, which is never in the buffer, outside of the text. */
        private int byteAt(int offset) {
            boolean inside = offset >= 0 && offset < length && offset < bytes.length;
            return inside ? bytes[offset] : 0;
        }

        private static boolean isLetter(int one) {
            return one >= 'a' && one <= 'z';
        }

        private static boolean isDigit(int one) {
            return one >= '0' && one <= '9';
        }

        /** Goes on to the next token; it is empty, at the length of the text, if there is none. */
        private void readToken() {
            int at = tokenEnd;
            while (at < length && byteAt(at) == ' ') {
                at++;
            }
            tokenStart = at;
            if (isLetter(byteAt(at))) {
                while (at < length && isLetter(byteAt(at))) {
                    at++;
                }
            } else if (isDigit(byteAt(at))) {
                while (at < length && isDigit(byteAt(at))) {
                    at++;
                }
            } else if (at < length) {
                at++;
            }
            tokenEnd = at;
        }

        private boolean tokenIs(String word) {
            if (tokenEnd - tokenStart != word.length()) {
                return false;
            }
            for (int at = 0; at < word.length(); at++) {
                if (byteAt(tokenStart + at) != word.charAt(at)) {
                    return false;
                }
            }
            return true;
        }

        private static String wordOf(int kind) {
            switch (kind) {
                case RULES: return "rules";
                case WALL: return "wall";
                case HARNESS: return "harness";
                case MEMBER: return "member";
                default: return "course";
            }
        }

        /** The kind of statement that begins with the token; NONE if there is none. */
        private int kindOfToken() {
            for (int kind = 0; kind < KINDS; kind++) {
                if (tokenIs(wordOf(kind))) {
                    return kind;
                }
            }
            return NONE;
        }

        /** The value of the token; NONE if it is no number or has too many digits. */
        private int numberOfToken() {
            if (!isDigit(byteAt(tokenStart)) || tokenEnd - tokenStart > MOST_DIGITS) {
                return NONE;
            }
            int value = 0;
            for (int at = tokenStart; at < tokenEnd; at++) {
                value = value * 10 + byteAt(at) - '0';
            }
            return value;
        }

        private boolean hasRoomFor(int kind) {
            switch (kind) {
                case RULES: return !hasRules;
                case WALL: return !draft.walls.isFull();
                case HARNESS: return !draft.harnesses.isFull();
                case MEMBER: return !draft.members.isFull();
                default: return !draft.courses.isFull();
            }
        }

        private static int numbersOf(int kind) {
            return kind >= 0 && kind < NUMBERS.length ? Math.min(NUMBERS[kind], MOST_NUMBERS) : 0;
        }

        private static boolean isInRange(int kind, int index, int value) {
            int place = kind * MOST_NUMBERS + index;
            return place >= 0 && place < LEAST.length && place < GREATEST.length
                    && value >= LEAST[place] && value <= GREATEST[place];
        }

        private void addStatement(int kind) {
            switch (kind) {
                case RULES:
                    draft.setRules(numbers[0], numbers[1], numbers[2]);
                    hasRules = true;
                    break;
                case WALL:
                    draft.addWall(numbers[0], numbers[1], numbers[2]);
                    break;
                case HARNESS:
                    draft.addHarness(numbers[0], numbers[1]);
                    break;
                case MEMBER:
                    draft.addMember(numbers[0], numbers[1]);
                    break;
                default:
                    draft.addCourse(numbers[0], numbers[1], numbers[2]);
                    break;
            }
        }

        /** Reads a statement; if it answers false, the token is the one that is not accepted. */
        private boolean readStatement() {
            readToken();
            int kind = kindOfToken();
            if (kind == NONE || !hasRoomFor(kind)) {
                return false;
            }
            for (int index = 0; index < numbersOf(kind) && index < numbers.length; index++) {
                readToken();
                int value = numberOfToken();
                if (value == NONE || !isInRange(kind, index, value)) {
                    return false;
                }
                numbers[index] = value;
            }
            addStatement(kind);
            return true;
        }

        /** Writes what the text says to the draft; answers the error position, or NONE. */
        int readDraft() {
            draft.clear();
            hasRules = false;
            tokenEnd = 0;
            // Each statement takes some bytes, so there are never more of them than bytes.
            for (int statements = 0; statements <= length; statements++) {
                if (!readStatement()) {
                    return tokenStart;
                }
                readToken();
                if (tokenStart >= length) {
                    return NONE;
                }
                if (byteAt(tokenStart) != ';') {
                    return tokenStart;
                }
            }
            return length;
        }
    }

    /** The halls before the latest changes, and the saved copy (section 8). */
    private static final class History {
        private final Hall[] before = new Hall[MOST_UNDOS];
        private int undos = 0;
        // The place of the latest one; the places go round, so that the oldest one is overwritten.
        private int latest = 0;
        private final Hall copy;
        private boolean hasCopy = false;

        History(Ballot ballot) {
            for (int place = 0; place < before.length; place++) {
                before[place] = new Hall(ballot);
            }
            copy = new Hall(ballot);
        }

        private Hall latestHall() {
            return latest >= 0 && latest < before.length ? before[latest] : null;
        }

        /** Keeps the hall as it is before a change that is sure to succeed. */
        void remember(Hall hall) {
            latest = (latest + 1) % MOST_UNDOS;
            undos = Math.min(undos + 1, MOST_UNDOS);
            Hall kept = latestHall();
            if (kept != null) {
                kept.copyFrom(hall);
            }
        }

        /** Makes the hall what it was before the latest change. */
        void takeBack(Hall hall) {
            Hall kept = latestHall();
            if (kept != null) {
                hall.copyFrom(kept);
            }
            latest = (latest + MOST_UNDOS - 1) % MOST_UNDOS;
            undos = Math.max(undos - 1, 0);
        }

        void keepCopy(Hall hall) {
            copy.copyFrom(hall);
            hasCopy = true;
        }

        void bringBackCopy(Hall hall) {
            hall.copyFrom(copy);
            undos = 0;
        }

        void forgetAll() {
            undos = 0;
            hasCopy = false;
        }
    }
}
