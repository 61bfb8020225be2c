/** A borough of gingerbread houses whose rents are nibbled from their own walls. */
public final class GingerRents {
    public static final int NONE = -1;

    private static final int HOUSES_MOST = 12;
    private static final int WALLS = 4;
    private static final int WALL_MOST = 99;
    private static final int AGE_MOST = 9999;
    private static final int QUARTER_MOST = 9999;
    private static final int QUARTERS_AT_ONCE = 60;
    private static final int STANDS_MOST = 200;

    private static final int TEXT_LINES_MOST = 16;
    private static final int TEXT_WIDTH = 5;
    private static final int TAPE_MOST = 400;

    private static final int TEXT_LAW = 0;
    private static final int TEXT_SKY = 1;
    private static final int TEXT_OFFICE = 2;
    private static final int TEXT_NEXT = 3;

    private static final int WORD_RENT = 0;
    private static final int WORD_GNAWS = 1;
    private static final int WORD_MELTS = 2;

    private static final int SKY_RAIN = 1;
    private static final int SKY_FROST = 2;
    private static final int SKY_THAW = 3;

    private static final int OFFICE_ICE = 1;
    private static final int OFFICE_BAKE = 2;
    private static final int OFFICE_WED = 3;
    private static final int OFFICE_RAZE = 4;

    private final Borough town;
    private final Borough pictured;
    private final Borough thought;
    private final Told told;
    private final Told toldThen;
    private final Season season;
    private final Season dream;
    private final Past past;
    private final Tape tape;
    private final Reader reader;
    private final Street street;
    private final Kitchen kitchen;
    private final Slab slab;
    private boolean isPictured;

    public GingerRents() {
        Borough real = new Borough();
        Borough imagined = new Borough();
        Told texts = new Told();
        Law law = new Law(texts.law, texts.code);
        town = real;
        thought = imagined;
        told = texts;
        pictured = new Borough();
        toldThen = new Told();
        season = new Season(real, texts, law, true);
        dream = new Season(imagined, texts, law, false);
        past = new Past();
        Tape bytes = new Tape();
        tape = bytes;
        reader = new Reader(bytes);
        street = new Street();
        kitchen = new Kitchen();
        slab = new Slab();
        isPictured = false;
    }

    public int state(int v) {
        int was = town.draws;
        town.draws = v;
        past.forget();
        return was;
    }

    public int house(int wall, int almonds, int teeth) {
        boolean fits = within(wall, 0, WALL_MOST) && within(almonds, 0, 9) && within(teeth, 0, 9);
        if (!fits || town.houses >= HOUSES_MOST) {
            return NONE;
        }
        past.forget();
        return town.build(wall, almonds, teeth);
    }

    public boolean set(int what, int who, int v) {
        if (what == 8) {
            if (!within(v, 0, 9)) {
                return false;
            }
            town.rain = v;
        } else {
            if (!within(what, 0, Borough.LODGERS) || !town.has(who) || !within(v, 0, mostToSet(what))) {
                return false;
            }
            town.write(who, what, v);
        }
        past.forget();
        return true;
    }

    public boolean act(int what, int who, int n) {
        if (!season.mayAct(what, who, n)) {
            return false;
        }
        past.keep(town, told.book.lines);
        season.actByHand(what, who, n);
        return true;
    }

    public int quarters(int n) {
        if (!within(n, 1, QUARTERS_AT_ONCE) || town.quarter + n > QUARTER_MOST) {
            return NONE;
        }
        int fallen = 0;
        for (int i = 0; i < n; i++) {
            past.keep(town, told.book.lines);
            fallen += season.pass();
        }
        return fallen;
    }

    public int feed(int a, int b, int c, int d, int e) {
        if (tape.length + 20 > TAPE_MOST) {
            return NONE;
        }
        tape.take(a);
        tape.take(b);
        tape.take(c);
        tape.take(d);
        tape.take(e);
        return tape.length;
    }

    public boolean end(int n) {
        if (n < 0 || n > tape.length) {
            return false;
        }
        tape.length = n;
        return true;
    }

    public int text(int k) {
        reader.forgetFault();
        boolean good = within(k, TEXT_LAW, TEXT_NEXT) && reader.reads(k, town.houses);
        // Whatever comes of it, a tape that was told as a text is told: one of no such number, too.
        tape.length = 0;
        return good ? keepText(k) : NONE;
    }

    public int fault(int what) {
        switch (what) {
            case 0:
                return reader.wrong;
            case 1:
                return reader.wrongPlace;
            default:
                return NONE;
        }
    }

    public int of(int house, int what) {
        if (!town.has(house)) {
            return NONE;
        }
        if (within(what, 0, Borough.AGE)) {
            return town.read(house, what);
        }
        if (what == 11) {
            return season.law.tells(town, house, town.thickest(house), WORD_RENT);
        }
        if (what == 12) {
            return told.nextTo(house);
        }
        if (within(what, 20, 20 + WALLS - 1)) {
            return season.law.tells(town, house, what - 20, WORD_GNAWS);
        }
        if (within(what, 30, 30 + WALLS - 1)) {
            return season.law.tells(town, house, what - 30, WORD_MELTS);
        }
        return NONE;
    }

    public int book(int i, int what) {
        if (i < 0 || i >= told.book.lines || !within(what, 0, 3)) {
            return NONE - 1;
        }
        return told.book.at(i, what);
    }

    public int goes(int n, int what) {
        if (!within(n, 1, QUARTERS_AT_ONCE) || !within(what, 0, 3)) {
            return NONE;
        }
        thought.copyFrom(town);
        for (int i = 0; i < n; i++) {
            dream.pass();
        }
        switch (what) {
            case 0:
                return thought.eaten;
            case 1:
                return thought.countUp();
            case 2:
                return thought.total(Borough.ICING);
            default:
                return thought.total(Borough.LODGERS);
        }
    }

    public int stands(int house) {
        if (!town.has(house)) {
            return NONE - 1;
        }
        if (!town.isUp(house)) {
            return 0;
        }
        thought.copyFrom(town);
        for (int i = 1; i <= STANDS_MOST; i++) {
            dream.pass();
            if (!thought.isUp(house)) {
                return i;
            }
        }
        return NONE;
    }

    public int hears(int a, int b) {
        return cheapestWay(a, b, true);
    }

    public int heard(int a, int v) {
        if (!town.has(a) || !within(v, 0, 800)) {
            return NONE;
        }
        street.spread(town, told.next, a, true);
        return street.countWithin(town.houses, a, v);
    }

    public int ants(int a, int b) {
        return cheapestWay(a, b, false);
    }

    public int piece(int v) {
        return tell(told.plate, v == NONE, within(v, 0, 99), v, 0);
    }

    public int plate(int k, int what) {
        if (!within(k, 1, told.plate.lines) || !within(what, 0, 1)) {
            return NONE;
        }
        return what == 0 ? Kitchen.leastShare(told.plate, 0, k) : Kitchen.secondShare(told.plate, k);
    }

    public int dough(int v) {
        return tell(told.pans, v == NONE, within(v, 1, 30), v, 0);
    }

    public int pans(int c, int what) {
        if (!within(c, 1, 60) || !within(what, 0, 1) || Kitchen.greatest(told.pans) > c) {
            return NONE;
        }
        return what == 0 ? kitchen.fewestPans(told.pans, c) : kitchen.firstFitPans(told.pans, c);
    }

    public int mortgage(int d, int r, int p, int what) {
        boolean fits = within(d, 1, 9999) && within(r, 0, 50) && within(p, 1, 999);
        if (!fits || !within(what, 0, 1)) {
            return NONE;
        }
        return Kitchen.payOff(d, r, p, what == 0);
    }

    public int mark(int v) {
        return tell(told.marks, v == NONE, within(v, 1, 60), v, 0);
    }

    public int measures(int what) {
        if (!within(what, 0, 1)) {
            return NONE;
        }
        return what == 0 ? Kitchen.countLengths(told.marks) : Kitchen.leastMissing(told.marks);
    }

    public int bite(int teeth, int wide) {
        return tell(told.bites, teeth == NONE, within(teeth, 0, 255) && within(wide, 0, 9), teeth, wide);
    }

    public int whose(int teeth, int wide) {
        if (!within(teeth, 0, 255) || !within(wide, 0, 9)) {
            return NONE;
        }
        return Kitchen.biters(told.bites, teeth, wide);
    }

    public int crumb(int way) {
        return tell(told.crumbs, way == NONE, within(way, 0, 3), way, 0);
    }

    public int crumbs(int what) {
        if (!within(what, 0, 1)) {
            return NONE;
        }
        return what == 0 ? kitchen.wayHome(told.crumbs) : kitchen.placesCrossed(told.crumbs);
    }

    public int loaf(int bakes, int cools) {
        return tell(told.loaves, bakes == NONE, within(bakes, 1, 30) && within(cools, 1, 30), bakes, cools);
    }

    public int ovens(int what) {
        if (what == 0) {
            return Kitchen.doneBy(told.loaves, 0, 0, 0);
        }
        if (what < 10 || what - 10 >= told.loaves.lines) {
            return NONE;
        }
        return Kitchen.loafAt(told.loaves, what - 10);
    }

    public int alone(int what) {
        if (!within(what, 0, 1)) {
            return NONE;
        }
        int best = street.mostAlone(town, told);
        return what == 0 ? Integer.bitCount(best) : best;
    }

    public int heir(int who, int whose) {
        boolean fits = within(who, 0, 11) && within(whose, 0, 11) && who != whose;
        return tell(told.heirs, who == NONE, fits, who, whose);
    }

    public int line(int who, int what) {
        if (!within(who, 0, 11) || !within(what, 0, 1)) {
            return NONE;
        }
        return Kitchen.lineOf(told.heirs, who, what == 0);
    }

    public int window(int n) {
        return within(n, 1, 20) ? Kitchen.windowWays(n) : NONE;
    }

    public int member(int wants, int weight) {
        return tell(told.members, wants == NONE, within(wants, 0, 4095) && within(weight, 1, 9), wants, weight);
    }

    public int council(int what) {
        if (!within(what, 0, 1)) {
            return NONE;
        }
        return what == 0 ? Kitchen.agreed(told.members) : Kitchen.leastMajority(told.members);
    }

    public int game(int high, int far) {
        if (!within(high, 1, Slab.HIGH_MOST) || !within(far, 1, Slab.FAR_MOST)) {
            return NONE;
        }
        return slab.bestBite(high, far);
    }

    public boolean undo() {
        if (past.many == 0) {
            return false;
        }
        told.book.lines = past.goBack(town);
        return true;
    }

    public boolean image(boolean taken) {
        if (taken) {
            pictured.copyFrom(town);
            toldThen.copyFrom(told);
            isPictured = true;
            return true;
        }
        if (!isPictured) {
            return false;
        }
        town.copyFrom(pictured);
        told.copyFrom(toldThen);
        past.forget();
        return true;
    }

    public int look(int what) {
        switch (what) {
            case 0:
                return town.houses;
            case 1:
                return town.rain;
            case 2:
                return town.frost;
            case 3:
                return town.eaten;
            case 4:
                return town.gnawed;
            case 5:
                return town.quarter;
            case 6:
                return town.upSet();
            case 7:
                return told.book.lines;
            case 8:
                return town.draws;
            case 9:
                return told.law.lines;
            case 10:
                return told.sky.lines;
            case 11:
                return told.office.lines;
            case 12:
                return told.next.lines;
            case 13:
                return past.many;
            default:
                return NONE;
        }
    }

    private static boolean within(int v, int least, int most) {
        return v >= least && v <= most;
    }

    private static int mostToSet(int column) {
        return column < WALLS || column == Borough.LODGERS ? 99 : 9;
    }

    private static int tell(Rows rows, boolean none, boolean fits, int a, int b) {
        if (none) {
            rows.lines = 0;
            return 0;
        }
        if (!fits || !rows.add(a, b, 0, 0, 0)) {
            return NONE;
        }
        return rows.lines;
    }

    private int keepText(int k) {
        Rows read = reader.lines;
        switch (k) {
            case TEXT_LAW:
                told.law.copyFrom(read);
                told.code.copyFrom(reader.code);
                break;
            case TEXT_SKY:
                told.sky.copyFrom(read);
                past.forget();
                break;
            case TEXT_OFFICE:
                told.office.copyFrom(read);
                past.forget();
                break;
            default:
                told.next.copyFrom(read);
                break;
        }
        return read.lines;
    }

    private int cheapestWay(int a, int b, boolean dearestStep) {
        if (!town.has(a) || !town.has(b)) {
            return NONE;
        }
        street.spread(town, told.next, a, dearestStep);
        return street.costTo(b);
    }

    /** Lines of numbers, all of one width, up to a most; made once and written over. */
    private static final class Rows {
        private final int most;
        private final int width;
        private final int[] cells;
        int lines;

        Rows(int most, int width) {
            this.most = Math.max(most, 0);
            this.width = Math.max(width, 1);
            cells = new int[this.most * this.width];
            lines = 0;
        }

        int at(int row, int column) {
            if (row < 0 || row >= lines || column < 0 || column >= width) {
                return NONE;
            }
            return cells[row * width + column];
        }

        /** Of the five as many are kept as the rows are wide. */
        boolean add(int a, int b, int c, int d, int e) {
            if (lines >= most) {
                return false;
            }
            int start = lines * width;
            cells[start] = a;
            if (width > 1) {
                cells[start + 1] = b;
            }
            if (width > 2) {
                cells[start + 2] = c;
            }
            if (width > 3) {
                cells[start + 3] = d;
            }
            if (width > 4) {
                cells[start + 4] = e;
            }
            lines++;
            return true;
        }

        void copyFrom(Rows other) {
            int used = other.lines * other.width;
            if (other.width == width && used <= cells.length) {
                System.arraycopy(other.cells, 0, cells, 0, used);
                lines = other.lines;
            }
        }
    }

    /** All that was told or written down in lines; what an image holds beside the borough. */
    private static final class Told {
        private static final int CODE_WIDTH = 2;
        private static final int BOOK_MOST = 150;
        private static final int BOOK_WIDTH = 4;

        final Rows law = new Rows(TEXT_LINES_MOST, TEXT_WIDTH);
        final Rows code = new Rows(TAPE_MOST, CODE_WIDTH);
        final Rows sky = new Rows(TEXT_LINES_MOST, TEXT_WIDTH);
        final Rows office = new Rows(TEXT_LINES_MOST, TEXT_WIDTH);
        final Rows next = new Rows(TEXT_LINES_MOST, TEXT_WIDTH);
        final Rows book = new Rows(BOOK_MOST, BOOK_WIDTH);
        final Rows plate = new Rows(9, 1);
        final Rows pans = new Rows(Kitchen.PANS_MOST, 1);
        final Rows marks = new Rows(5, 1);
        final Rows bites = new Rows(8, 2);
        final Rows crumbs = new Rows(Kitchen.STEPS_MOST, 1);
        final Rows loaves = new Rows(6, 2);
        final Rows heirs = new Rows(12, 2);
        final Rows members = new Rows(8, 2);

        int nextTo(int house) {
            int near = 0;
            for (int i = 0; i < next.lines; i++) {
                int a = next.at(i, 0);
                int b = next.at(i, 1);
                if (a == house) {
                    near |= 1 << b;
                }
                if (b == house) {
                    near |= 1 << a;
                }
            }
            return near;
        }

        void copyFrom(Told other) {
            law.copyFrom(other.law);
            code.copyFrom(other.code);
            sky.copyFrom(other.sky);
            office.copyFrom(other.office);
            next.copyFrom(other.next);
            book.copyFrom(other.book);
            plate.copyFrom(other.plate);
            pans.copyFrom(other.pans);
            marks.copyFrom(other.marks);
            bites.copyFrom(other.bites);
            crumbs.copyFrom(other.crumbs);
            loaves.copyFrom(other.loaves);
            heirs.copyFrom(other.heirs);
            members.copyFrom(other.members);
        }
    }

    /** What quarters and hands change, without the book: this is what undoing brings back. */
    private static final class Borough {
        static final int ALMONDS = 4;
        static final int TEETH = 5;
        static final int HARD = 6;
        static final int LODGERS = 7;
        static final int ICING = 8;
        static final int DOOR = 9;
        static final int AGE = 10;
        private static final int COLUMNS = 11;

        private final int[] cells = new int[HOUSES_MOST * COLUMNS];
        int houses;
        int rain;
        int frost;
        int eaten;
        int gnawed;
        int quarter;
        int draws;

        boolean has(int house) {
            return house >= 0 && house < houses;
        }

        int read(int house, int column) {
            if (house < 0 || house >= houses || column < 0 || column >= COLUMNS) {
                return 0;
            }
            return cells[house * COLUMNS + column];
        }

        void write(int house, int column, int value) {
            if (house >= 0 && house < houses && column >= 0 && column < COLUMNS) {
                cells[house * COLUMNS + column] = value;
            }
        }

        int build(int wall, int almonds, int teeth) {
            int number = houses;
            houses++;
            for (int w = 0; w < WALLS; w++) {
                write(number, w, wall);
            }
            write(number, ALMONDS, almonds);
            write(number, TEETH, teeth);
            write(number, HARD, 0);
            write(number, LODGERS, 1);
            write(number, ICING, 0);
            write(number, DOOR, 0);
            write(number, AGE, 0);
            return number;
        }

        boolean isUp(int house) {
            return sumOf(house) > 0;
        }

        int sumOf(int house) {
            if (house < 0 || house >= houses) {
                return 0;
            }
            int start = house * COLUMNS;
            return cells[start] + cells[start + 1] + cells[start + 2] + cells[start + 3];
        }

        int thickest(int house) {
            int best = 0;
            for (int w = 1; w < WALLS; w++) {
                if (read(house, w) > read(house, best)) {
                    best = w;
                }
            }
            return best;
        }

        int countUp() {
            return Integer.bitCount(upSet());
        }

        int upSet() {
            int up = 0;
            for (int h = 0; h < houses; h++) {
                if (isUp(h)) {
                    up |= 1 << h;
                }
            }
            return up;
        }

        int total(int column) {
            int sum = 0;
            for (int h = 0; h < houses; h++) {
                sum += read(h, column);
            }
            return sum;
        }

        /** Answers how much the wall had to lose. */
        int thin(int house, int wall, int n) {
            int had = read(house, wall);
            int lost = Math.min(had, n);
            write(house, wall, had - lost);
            return lost;
        }

        void thicken(int house, int wall, int n) {
            write(house, wall, Math.min(WALL_MOST, read(house, wall) + n));
        }

        int draw(int m) {
            draws = 1664525 * draws + 1013904223;
            return m > 0 ? (draws >>> 8) % m : 0;
        }

        void copyFrom(Borough other) {
            System.arraycopy(other.cells, 0, cells, 0, cells.length);
            houses = other.houses;
            rain = other.rain;
            frost = other.frost;
            eaten = other.eaten;
            gnawed = other.gnawed;
            quarter = other.quarter;
            draws = other.draws;
        }
    }

    /** Asks the law, which was turned into steps for a stack when it was read. */
    private static final class Law {
        static final int NUMBER = 0;
        static final int KNOWN = 1;
        static final int ADD = 2;
        static final int LESS_BY = 3;
        static final int TIMES = 4;
        static final int PART = 5;
        static final int BELOW = 6;
        static final int ALIKE = 7;
        static final int ABOVE = 8;
        static final int NOT = 9;
        static final int AND = 10;
        static final int OR = 11;
        static final int KNOWN_WORDS = 12;

        // Eight open brackets hold two values each, a comparison four more: 64 is far above that.
        private static final int STACK_MOST = 64;

        private final Rows lines;
        private final Rows code;
        private final int[] known = new int[KNOWN_WORDS];
        private final int[] stack = new int[STACK_MOST];
        private int depth;

        Law(Rows lines, Rows code) {
            this.lines = lines;
            this.code = code;
        }

        int tells(Borough town, int house, int wall, int word) {
            int most = word == WORD_GNAWS ? 1000 : 99;
            boolean isGathered = false;
            for (int i = 0; i < lines.lines; i++) {
                if (lines.at(i, 0) != word) {
                    continue;
                }
                if (!isGathered) {
                    gather(town, house, wall);
                    isGathered = true;
                }
                if (applies(i)) {
                    return held(run(lines.at(i, 1), lines.at(i, 2)), most);
                }
            }
            return held(customary(town, house, word), most);
        }

        private void gather(Borough town, int house, int wall) {
            known[0] = town.read(house, wall);
            known[1] = town.sumOf(house);
            known[2] = town.read(house, Borough.ALMONDS);
            known[3] = town.read(house, Borough.TEETH);
            known[4] = town.read(house, Borough.HARD);
            known[5] = town.read(house, Borough.ICING);
            known[6] = town.read(house, Borough.LODGERS);
            known[7] = town.read(house, Borough.DOOR);
            known[8] = town.read(house, Borough.AGE);
            known[9] = town.rain;
            known[10] = town.frost;
            known[11] = town.quarter;
        }

        private static int held(int v, int most) {
            return Math.max(0, Math.min(most, v));
        }

        private static int customary(Borough town, int house, int word) {
            switch (word) {
                case WORD_RENT:
                    return 4 + 2 * town.read(house, Borough.LODGERS);
                case WORD_GNAWS:
                    return 300 - 30 * town.read(house, Borough.HARD);
                default:
                    return town.rain - town.read(house, Borough.HARD);
            }
        }

        private boolean applies(int line) {
            int from = lines.at(line, 2);
            int to = lines.at(line, 3);
            return from >= to || run(from, to) != 0;
        }

        private int run(int from, int to) {
            depth = 0;
            for (int i = from; i < to; i++) {
                step(code.at(i, 0), code.at(i, 1));
            }
            return depth > 0 ? stack[0] : 0;
        }

        private void step(int kind, int value) {
            if (kind == NUMBER || kind == KNOWN) {
                if (depth < STACK_MOST) {
                    boolean isKnown = kind == KNOWN && value >= 0 && value < KNOWN_WORDS;
                    stack[depth] = isKnown ? known[value] : value;
                    depth++;
                }
            } else if (kind == PART) {
                if (depth > 0 && value != 0) {
                    stack[depth - 1] /= value;
                }
            } else if (kind == NOT) {
                if (depth > 0) {
                    stack[depth - 1] = stack[depth - 1] == 0 ? 1 : 0;
                }
            } else if (depth > 1) {
                depth--;
                stack[depth - 1] = joined(kind, stack[depth - 1], stack[depth]);
            }
        }

        private static int joined(int kind, int a, int b) {
            switch (kind) {
                case ADD:
                    return a + b;
                case LESS_BY:
                    return a - b;
                case TIMES:
                    return a * b;
                case BELOW:
                    return a < b ? 1 : 0;
                case ALIKE:
                    return a == b ? 1 : 0;
                case ABOVE:
                    return a > b ? 1 : 0;
                case AND:
                    return a & b;
                default:
                    return a | b;
            }
        }
    }

    /** What goes on in a borough by the quarter and by hand; in thought without draws and book. */
    private static final class Season {
        private static final int NIBBLED = 0;
        private static final int ICED = 1;
        private static final int GNAWED = 2;
        private static final int MELTED = 3;
        private static final int GONE = 4;
        private static final int WED = 5;

        private static final int ACT_BAKE = 10;
        private static final int ACT_WED = 20;
        private static final int ACT_MOVE = 21;
        private static final int ACT_RAZE = 22;

        private final Borough town;
        private final Told told;
        final Law law;
        private final boolean isReal;

        Season(Borough town, Told told, Law law, boolean isReal) {
            this.town = town;
            this.told = told;
            this.law = law;
            this.isReal = isReal;
        }

        /** One quarter: answers how many houses fell by rents, rats and rain. */
        int pass() {
            weather();
            for (int i = 0; i < told.office.lines; i++) {
                if (told.office.at(i, 0) == town.quarter) {
                    officeLine(told.office, i);
                }
            }
            int before = town.countUp();
            for (int h = 0; h < town.houses; h++) {
                if (town.isUp(h) && town.read(h, Borough.LODGERS) > 0) {
                    payRent(h);
                }
            }
            for (int h = 0; h < town.houses; h++) {
                gnaw(h);
            }
            for (int h = 0; h < town.houses; h++) {
                melt(h);
            }
            int fallen = before - town.countUp();
            harden();
            for (int h = 0; h < town.houses; h++) {
                leaveIfFallen(h);
            }
            grow();
            return fallen;
        }

        private void weather() {
            Rows sky = told.sky;
            for (int i = 0; i < sky.lines; i++) {
                if (sky.at(i, 0) == town.quarter) {
                    switch (sky.at(i, 1)) {
                        case SKY_RAIN:
                            town.rain = sky.at(i, 2);
                            break;
                        case SKY_FROST:
                            town.frost = 1;
                            break;
                        default:
                            town.frost = 0;
                            break;
                    }
                }
            }
        }

        private void officeLine(Rows office, int i) {
            int house = office.at(i, 2);
            int n = office.at(i, 4);
            switch (office.at(i, 1)) {
                case OFFICE_ICE:
                    town.write(house, Borough.ICING, Math.max(0, town.read(house, Borough.ICING) - n));
                    break;
                case OFFICE_BAKE:
                    town.thicken(house, office.at(i, 3), n);
                    break;
                case OFFICE_WED:
                    if (mayWed(house)) {
                        wed(house);
                    }
                    break;
                default:
                    if (town.isUp(house)) {
                        raze(house);
                    }
                    break;
            }
        }

        private void payRent(int house) {
            int rent = law.tells(town, house, town.thickest(house), WORD_RENT);
            int nibbled = 0;
            for (int i = 0; i < rent && town.isUp(house); i++) {
                nibbled += town.thin(house, town.thickest(house), 1);
            }
            town.eaten += nibbled;
            noteIfAny(NIBBLED, house, nibbled);
            int owed = rent - nibbled;
            town.write(house, Borough.ICING, town.read(house, Borough.ICING) + owed);
            noteIfAny(ICED, house, owed);
            leaveIfFallen(house);
        }

        private void gnaw(int house) {
            int lost = 0;
            for (int w = 0; w < WALLS; w++) {
                if (town.read(house, w) > 0 && ratsGnaw(law.tells(town, house, w, WORD_GNAWS))) {
                    lost += town.thin(house, w, 1);
                }
            }
            town.gnawed += lost;
            noteIfAny(GNAWED, house, lost);
        }

        private boolean ratsGnaw(int gnaws) {
            if (!isReal) {
                return gnaws >= 500;
            }
            return gnaws > 0 && town.draw(1000) < gnaws;
        }

        private void melt(int house) {
            if (town.frost != 0) {
                return;
            }
            int lost = 0;
            for (int w = 0; w < WALLS; w++) {
                if (town.read(house, w) > 0) {
                    lost += town.thin(house, w, law.tells(town, house, w, WORD_MELTS));
                }
            }
            noteIfAny(MELTED, house, lost);
        }

        private void harden() {
            for (int h = 0; h < town.houses; h++) {
                if (town.frost == 1 && town.isUp(h)) {
                    town.write(h, Borough.HARD, Math.min(9, town.read(h, Borough.HARD) + 1));
                }
            }
        }

        /** In thought quarters go by behind the last one, too: what counts them stays within its bounds. */
        private void grow() {
            for (int h = 0; h < town.houses; h++) {
                if (town.isUp(h)) {
                    town.write(h, Borough.AGE, Math.min(AGE_MOST, town.read(h, Borough.AGE) + 1));
                }
            }
            town.quarter = Math.min(QUARTER_MOST, town.quarter + 1);
        }

        private void leaveIfFallen(int house) {
            if (town.isUp(house) || town.read(house, Borough.LODGERS) <= 0) {
                return;
            }
            moveLodgers(house, refuge(house));
        }

        private int refuge(int house) {
            int near = told.nextTo(house);
            for (int h = 0; h < town.houses; h++) {
                if ((near >> h & 1) == 1 && town.isUp(h)) {
                    return h;
                }
            }
            return NONE;
        }

        private void moveLodgers(int from, int to) {
            int many = town.read(from, Borough.LODGERS);
            town.write(from, Borough.LODGERS, 0);
            if (to != NONE) {
                town.write(to, Borough.LODGERS, town.read(to, Borough.LODGERS) + many);
            }
            note(GONE, from, to);
        }

        private void note(int what, int house, int n) {
            if (isReal) {
                told.book.add(town.quarter, what, house, n, 0);
            }
        }

        private void noteIfAny(int what, int house, int n) {
            if (n > 0) {
                note(what, house, n);
            }
        }

        boolean mayAct(int what, int who, int n) {
            if (!town.has(who)) {
                return false;
            }
            if (within(what, 0, WALLS - 1)) {
                return within(n, 1, town.read(who, what));
            }
            if (within(what, ACT_BAKE, ACT_BAKE + WALLS - 1)) {
                return within(n, 1, WALL_MOST);
            }
            switch (what) {
                case ACT_WED:
                    return mayWed(who);
                case ACT_MOVE:
                    return town.read(who, Borough.LODGERS) > 0 && n != who && town.has(n) && town.isUp(n);
                case ACT_RAZE:
                    return town.isUp(who);
                default:
                    return false;
            }
        }

        void actByHand(int what, int who, int n) {
            if (within(what, 0, WALLS - 1)) {
                nibble(who, what, n);
            } else if (within(what, ACT_BAKE, ACT_BAKE + WALLS - 1)) {
                town.thicken(who, what - ACT_BAKE, n);
            } else if (what == ACT_WED) {
                wed(who);
            } else if (what == ACT_MOVE) {
                moveLodgers(who, n);
            } else if (what == ACT_RAZE) {
                raze(who);
            }
        }

        private void nibble(int house, int wall, int n) {
            town.eaten += town.thin(house, wall, n);
            note(NIBBLED, house, n);
            leaveIfFallen(house);
        }

        private boolean mayWed(int house) {
            return town.isUp(house) && town.read(house, Borough.DOOR) == 0 && town.read(house, Borough.LODGERS) > 0;
        }

        private void wed(int house) {
            town.write(house, Borough.DOOR, 1);
            town.thin(house, town.thickest(house), 10);
            int lodgers = town.read(house, Borough.LODGERS) + 1;
            town.write(house, Borough.LODGERS, lodgers);
            note(WED, house, lodgers);
            leaveIfFallen(house);
        }

        private void raze(int house) {
            for (int w = 0; w < WALLS; w++) {
                town.write(house, w, 0);
            }
            leaveIfFallen(house);
        }
    }

    /** The latest few boroughs, from which undoing goes back. */
    private static final class Past {
        private static final int KEPT_MOST = 6;

        private final Borough[] kept = new Borough[KEPT_MOST];
        private final int[] bookLines = new int[KEPT_MOST];
        private int first;
        int many;

        Past() {
            for (int i = 0; i < KEPT_MOST; i++) {
                kept[i] = new Borough();
            }
        }

        void keep(Borough town, int lines) {
            int slot = (first + many) % KEPT_MOST;
            kept[slot].copyFrom(town);
            bookLines[slot] = lines;
            if (many < KEPT_MOST) {
                many++;
            } else {
                first = (first + 1) % KEPT_MOST;
            }
        }

        /**
         * Answers how many lines the book had. Their count is enough: lines below it can't have
         * been written over while it was kept.
         */
        int goBack(Borough town) {
            many = Math.max(0, many - 1);
            int slot = (first + many) % KEPT_MOST;
            town.copyFrom(kept[slot]);
            return bookLines[slot];
        }

        void forget() {
            many = 0;
        }
    }

    /** Bytes that come in, and the tokens that stand in them. */
    private static final class Tape {
        static final int END = 0;
        static final int WORD = 1;
        static final int NUMBER = 2;
        static final int SIGN = 3;
        static final int NOTHING = 4;

        private static final String SIGNS = ";+-*/()<=>";
        private static final int DIGITS_MOST = 4;

        private final byte[] bytes = new byte[TAPE_MOST];
        final int[] kinds = new int[TAPE_MOST + 1];
        final int[] values = new int[TAPE_MOST + 1];
        final int[] places = new int[TAPE_MOST + 1];
        int length;
        int tokens;

        void take(int four) {
            for (int shift = 24; shift >= 0; shift -= 8) {
                if (length < TAPE_MOST) {
                    bytes[length] = (byte) (four >>> shift);
                    length++;
                }
            }
        }

        /** The last token is the end. */
        void scan(String words) {
            tokens = 0;
            int from = 0;
            for (int i = 0; i < TAPE_MOST && from < length; i++) {
                int to = behindToken(from);
                if (!isBlank(byteAt(from))) {
                    int kind = kindOf(words, from, to);
                    keepToken(kind, valueOf(words, kind, from, to), from);
                }
                from = to;
            }
            keepToken(END, 0, length);
        }

        private void keepToken(int kind, int value, int place) {
            if (tokens <= TAPE_MOST) {
                kinds[tokens] = kind;
                values[tokens] = value;
                places[tokens] = place;
                tokens++;
            }
        }

        private int behindToken(int from) {
            int first = byteAt(from);
            int to = from + 1;
            if (isLetter(first)) {
                while (to < length && isLetter(byteAt(to))) {
                    to++;
                }
            } else if (isDigit(first)) {
                while (to < length && isDigit(byteAt(to))) {
                    to++;
                }
            }
            return to;
        }

        private int kindOf(String words, int from, int to) {
            int first = byteAt(from);
            if (isLetter(first)) {
                return wordNumber(words, from, to) == NONE ? NOTHING : WORD;
            }
            if (isDigit(first)) {
                return to - from <= DIGITS_MOST ? NUMBER : NOTHING;
            }
            return SIGNS.indexOf((char) first) >= 0 ? SIGN : NOTHING;
        }

        private int valueOf(String words, int kind, int from, int to) {
            switch (kind) {
                case WORD:
                    return wordNumber(words, from, to);
                case NUMBER:
                    return numberAt(from, to);
                default:
                    return byteAt(from);
            }
        }

        private int numberAt(int from, int to) {
            int number = 0;
            for (int i = from; i < to; i++) {
                number = 10 * number + byteAt(i) - '0';
            }
            return number;
        }

        /** The words stand in one text with a blank between, as arrays of texts are not to be kept. */
        private int wordNumber(String words, int from, int to) {
            int number = 0;
            int start = 0;
            for (int i = 0; i <= words.length(); i++) {
                if (i == words.length() || words.charAt(i) == ' ') {
                    if (i - start == to - from && isSame(words, start, from, to)) {
                        return number;
                    }
                    number++;
                    start = i + 1;
                }
            }
            return NONE;
        }

        private boolean isSame(String words, int start, int from, int to) {
            for (int i = from; i < to; i++) {
                int at = start + i - from;
                if (at >= words.length() || words.charAt(at) != byteAt(i)) {
                    return false;
                }
            }
            return true;
        }

        private int byteAt(int i) {
            return i >= 0 && i < length && i < TAPE_MOST ? bytes[i] & 255 : 0;
        }

        private static boolean isBlank(int c) {
            return c == 32 || c == 10;
        }

        private static boolean isLetter(int c) {
            return within(c, 'a', 'z') || within(c, 'A', 'Z');
        }

        private static boolean isDigit(int c) {
            return within(c, '0', '9');
        }
    }

    /** Reads a tape as one of the four texts; the first token that is wrong is the fault. */
    private static final class Reader {
        private static final String LAW_WORDS = "rent gnaws melts when or and not wall sum almonds teeth hard icing lodgers door age rain frost quarter";
        private static final String SKY_WORDS = "in rain frost thaw";
        private static final String OFFICE_WORDS = "in ice bake wed raze";
        private static final String NEXT_WORDS = "house next";

        private static final int LAW_WHEN = 3;
        private static final int LAW_OR = 4;
        private static final int LAW_AND = 5;
        private static final int LAW_NOT = 6;
        private static final int LAW_KNOWN = 7;
        private static final int NEXT_NEXT = 1;

        private static final int CANNOT_STAND = 1;
        private static final int BEYOND_BOUNDS = 2;
        private static final int TOO_MANY = 3;
        private static final int OPEN_MOST = 8;
        private static final int TEXT_QUARTER_MOST = 999;

        final Rows lines = new Rows(TEXT_LINES_MOST, TEXT_WIDTH);
        final Rows code = new Rows(TAPE_MOST, Told.CODE_WIDTH);
        int wrong = 0;
        int wrongPlace = NONE;
        private final Tape tape;
        private int at;
        private int kind;
        private int value;
        private int houses;
        private int taken;

        Reader(Tape tape) {
            this.tape = tape;
        }

        void forgetFault() {
            wrong = 0;
            wrongPlace = NONE;
        }

        boolean reads(int k, int houses) {
            tape.scan(wordsOf(k));
            this.houses = houses;
            lines.lines = 0;
            code.lines = 0;
            at = NONE;
            advance();
            for (int i = 0; i <= TEXT_LINES_MOST; i++) {
                if (kind == Tape.END) {
                    return true;
                }
                if (kind != Tape.WORD || value > (k == TEXT_LAW ? WORD_MELTS : 0)) {
                    return refuse(CANNOT_STAND);
                }
                if (i == TEXT_LINES_MOST) {
                    return refuse(TOO_MANY);
                }
                boolean isGood = k == TEXT_LAW ? lawLine() : k == TEXT_SKY ? skyLine() : k == TEXT_OFFICE ? officeLine() : nextLine();
                if (!isGood) {
                    return false;
                }
            }
            return false;
        }

        private static String wordsOf(int k) {
            switch (k) {
                case TEXT_LAW:
                    return LAW_WORDS;
                case TEXT_SKY:
                    return SKY_WORDS;
                case TEXT_OFFICE:
                    return OFFICE_WORDS;
                default:
                    return NEXT_WORDS;
            }
        }

        private boolean lawLine() {
            int word = value;
            advance();
            int from = code.lines;
            if (!expression()) {
                return false;
            }
            int middle = code.lines;
            if (isWord(LAW_WHEN)) {
                advance();
                if (!condition(0)) {
                    return false;
                }
            }
            return takesSign(';') && lines.add(word, from, middle, code.lines, 0);
        }

        private boolean skyLine() {
            advance();
            if (!takesNumber(0, TEXT_QUARTER_MOST)) {
                return false;
            }
            int quarter = taken;
            if (kind != Tape.WORD || !within(value, SKY_RAIN, SKY_THAW)) {
                return refuse(CANNOT_STAND);
            }
            int what = value;
            advance();
            int n = 0;
            if (what == SKY_RAIN) {
                if (!takesNumber(0, 9)) {
                    return false;
                }
                n = taken;
            }
            return takesSign(';') && lines.add(quarter, what, n, 0, 0);
        }

        private boolean officeLine() {
            advance();
            if (!takesNumber(0, TEXT_QUARTER_MOST)) {
                return false;
            }
            int quarter = taken;
            if (kind != Tape.WORD || !within(value, OFFICE_ICE, OFFICE_RAZE)) {
                return refuse(CANNOT_STAND);
            }
            int what = value;
            advance();
            if (!takesNumber(0, houses - 1)) {
                return false;
            }
            int house = taken;
            int wall = 0;
            if (what == OFFICE_BAKE) {
                if (!takesNumber(0, WALLS - 1)) {
                    return false;
                }
                wall = taken;
            }
            int n = 0;
            if (what == OFFICE_ICE || what == OFFICE_BAKE) {
                if (!takesNumber(1, 99)) {
                    return false;
                }
                n = taken;
            }
            return takesSign(';') && lines.add(quarter, what, house, wall, n);
        }

        private boolean nextLine() {
            advance();
            if (!takesNumber(0, houses - 1)) {
                return false;
            }
            int one = taken;
            if (!isWord(NEXT_NEXT)) {
                return refuse(CANNOT_STAND);
            }
            advance();
            if (kind == Tape.NUMBER && value == one) {
                return refuse(BEYOND_BOUNDS);
            }
            return takesNumber(0, houses - 1) && takesSign(';') && lines.add(one, taken, 0, 0, 0);
        }

        /** A sum waits until its right side, products and parts in it, has come. */
        private boolean expression() {
            int waits = NONE;
            if (!unit()) {
                return false;
            }
            for (int i = 0; i < TAPE_MOST && (isSign('+') || isSign('-') || isSign('*') || isSign('/')); i++) {
                int c = value;
                advance();
                if (c == '/') {
                    if (!takesNumber(1, 9999)) {
                        return false;
                    }
                    emit(Law.PART, taken);
                    continue;
                }
                if (c != '*') {
                    if (waits != NONE) {
                        emit(waits, 0);
                    }
                    waits = c == '+' ? Law.ADD : Law.LESS_BY;
                }
                if (!unit()) {
                    return false;
                }
                if (c == '*') {
                    emit(Law.TIMES, 0);
                }
            }
            return waits == NONE || emit(waits, 0);
        }

        private boolean unit() {
            if (kind == Tape.NUMBER) {
                code.add(Law.NUMBER, value, 0, 0, 0);
            } else if (kind == Tape.WORD && value >= LAW_KNOWN) {
                code.add(Law.KNOWN, value - LAW_KNOWN, 0, 0, 0);
            } else {
                return refuse(CANNOT_STAND);
            }
            advance();
            return true;
        }

        /** An or waits until its right side, all that is joined by and, has come. */
        private boolean condition(int open) {
            int waits = NONE;
            if (!clause(open)) {
                return false;
            }
            for (int i = 0; i < TAPE_MOST && (isWord(LAW_OR) || isWord(LAW_AND)); i++) {
                boolean isAnd = isWord(LAW_AND);
                advance();
                if (!isAnd) {
                    if (waits != NONE) {
                        emit(waits, 0);
                    }
                    waits = Law.OR;
                }
                if (!clause(open)) {
                    return false;
                }
                if (isAnd) {
                    emit(Law.AND, 0);
                }
            }
            return waits == NONE || emit(waits, 0);
        }

        private boolean clause(int open) {
            boolean isNot = isWord(LAW_NOT);
            if (isNot || isSign('(')) {
                if (open >= OPEN_MOST) {
                    return refuse(TOO_MANY);
                }
                advance();
                if (!isNot) {
                    return condition(open + 1) && takesSign(')');
                }
                return clause(open + 1) && emit(Law.NOT, 0);
            }
            if (!expression()) {
                return false;
            }
            int c = value;
            if (!isSign('<') && !isSign('=') && !isSign('>')) {
                return refuse(CANNOT_STAND);
            }
            advance();
            return expression() && emit(c == '<' ? Law.BELOW : c == '=' ? Law.ALIKE : Law.ABOVE, 0);
        }

        private boolean emit(int step, int n) {
            return code.add(step, n, 0, 0, 0);
        }

        private boolean takesNumber(int least, int most) {
            if (kind != Tape.NUMBER) {
                return refuse(CANNOT_STAND);
            }
            if (!within(value, least, most)) {
                return refuse(BEYOND_BOUNDS);
            }
            taken = value;
            advance();
            return true;
        }

        private boolean takesSign(char c) {
            if (!isSign(c)) {
                return refuse(CANNOT_STAND);
            }
            advance();
            return true;
        }

        private boolean isSign(char c) {
            return kind == Tape.SIGN && value == c;
        }

        private boolean isWord(int word) {
            return kind == Tape.WORD && value == word;
        }

        private void advance() {
            at++;
            boolean isToken = at >= 0 && at < tape.tokens && at <= TAPE_MOST;
            kind = isToken ? tape.kinds[at] : Tape.END;
            value = isToken ? tape.values[at] : 0;
        }

        private boolean refuse(int what) {
            wrong = what;
            wrongPlace = at >= 0 && at < tape.tokens && at <= TAPE_MOST ? tape.places[at] : tape.length;
            return false;
        }
    }

    /** Ways from next to next, and who is alone. */
    private static final class Street {
        private static final int FAR = 1000000;

        private final int[] costs = new int[HOUSES_MOST];
        private final int[] near = new int[HOUSES_MOST];

        /** What it costs from one house to each: its dearest step, or all steps together. */
        void spread(Borough town, Rows next, int from, boolean dearestStep) {
            for (int h = 0; h < HOUSES_MOST; h++) {
                costs[h] = h == from ? 0 : FAR;
            }
            for (int round = 0; round < HOUSES_MOST; round++) {
                for (int i = 0; i < next.lines; i++) {
                    int a = next.at(i, 0);
                    int b = next.at(i, 1);
                    if (town.has(a) && town.has(b)) {
                        int step = town.sumOf(a) + town.sumOf(b);
                        costs[b] = Math.min(costs[b], onwards(costs[a], step, dearestStep));
                        costs[a] = Math.min(costs[a], onwards(costs[b], step, dearestStep));
                    }
                }
            }
        }

        private static int onwards(int cost, int step, boolean dearestStep) {
            return dearestStep ? Math.max(cost, step) : cost + step;
        }

        int costTo(int house) {
            if (house < 0 || house >= HOUSES_MOST || costs[house] >= FAR) {
                return NONE;
            }
            return costs[house];
        }

        int countWithin(int houses, int from, int most) {
            int count = 0;
            for (int h = 0; h < houses && h < HOUSES_MOST; h++) {
                if (h != from && costs[h] <= most) {
                    count++;
                }
            }
            return count;
        }

        /** Sets are tried from the least on, so the first of a size is the least. */
        int mostAlone(Borough town, Told told) {
            int up = town.upSet();
            for (int h = 0; h < HOUSES_MOST; h++) {
                near[h] = told.nextTo(h);
            }
            int best = 0;
            int most = 0;
            for (int set = 1; set < 1 << HOUSES_MOST; set++) {
                if ((set & up) == set && Integer.bitCount(set) > most && isAlone(set)) {
                    best = set;
                    most = Integer.bitCount(set);
                }
            }
            return best;
        }

        private boolean isAlone(int set) {
            for (int h = 0; h < HOUSES_MOST; h++) {
                if ((set >> h & 1) == 1 && (near[h] & set) != 0) {
                    return false;
                }
            }
            return true;
        }
    }

    /** What is told for thought and thought about it. */
    private static final class Kitchen {
        static final int PANS_MOST = 8;
        static final int STEPS_MOST = 16;

        private static final int MORTGAGE_QUARTERS_MOST = 400;
        private static final int LENGTH_MOST = 60;
        private static final int COUNCIL_BITS = 12;
        private static final int PEOPLE = 12;
        private static final int NEVER = 1000000;

        private final int[] loads = new int[PANS_MOST];
        private final int[] norths = new int[STEPS_MOST + 1];
        private final int[] easts = new int[STEPS_MOST + 1];

        /** The least share of the best cut of what lies from a piece on. */
        private static int leastShare(Rows plate, int from, int k) {
            int first = 0;
            if (k <= 1) {
                for (int i = from; i < plate.lines; i++) {
                    first += plate.at(i, 0);
                }
                return first;
            }
            int best = NONE;
            for (int second = from + 1; second <= plate.lines - (k - 1); second++) {
                first += plate.at(second - 1, 0);
                best = Math.max(best, Math.min(first, leastShare(plate, second, k - 1)));
            }
            return best;
        }

        static int secondShare(Rows plate, int k) {
            if (k <= 1) {
                return NONE;
            }
            int best = leastShare(plate, 0, k);
            int first = 0;
            for (int second = 1; second < plate.lines; second++) {
                first += plate.at(second - 1, 0);
                if (Math.min(first, leastShare(plate, second, k - 1)) == best) {
                    return second;
                }
            }
            return NONE;
        }

        static int greatest(Rows rows) {
            int most = 0;
            for (int i = 0; i < rows.lines; i++) {
                most = Math.max(most, rows.at(i, 0));
            }
            return most;
        }

        int fewestPans(Rows doughs, int room) {
            return fewestFrom(loads, doughs, room, 0, 0);
        }

        /** Tries each pan in use and one new one for a dough; the loads are given back behind it. */
        private static int fewestFrom(int[] loads, Rows doughs, int room, int i, int used) {
            if (i >= doughs.lines) {
                return used;
            }
            int size = doughs.at(i, 0);
            int best = PANS_MOST;
            for (int pan = 0; pan <= used && pan < loads.length; pan++) {
                int load = pan < used ? loads[pan] : 0;
                if (load + size <= room) {
                    loads[pan] = load + size;
                    best = Math.min(best, fewestFrom(loads, doughs, room, i + 1, Math.max(used, pan + 1)));
                    loads[pan] = load;
                }
            }
            return best;
        }

        int firstFitPans(Rows doughs, int room) {
            int used = 0;
            for (int i = 0; i < doughs.lines; i++) {
                int size = doughs.at(i, 0);
                int pan = 0;
                while (pan < used && loads[pan] + size > room) {
                    pan++;
                }
                if (pan < PANS_MOST) {
                    loads[pan] = pan < used ? loads[pan] + size : size;
                    used = Math.max(used, pan + 1);
                }
            }
            return used;
        }

        /** A debt that did not shrink in a quarter never will: that also keeps it from running over. */
        static int payOff(int d, int r, int p, boolean asksQuarters) {
            int debt = d;
            int paid = 0;
            for (int i = 1; i <= MORTGAGE_QUARTERS_MOST; i++) {
                int owed = debt + (debt * r + 99) / 100;
                int pays = Math.min(p, owed);
                paid += pays;
                if (pays == owed) {
                    return asksQuarters ? i : paid;
                }
                if (owed - pays >= debt) {
                    return NONE;
                }
                debt = owed - pays;
            }
            return NONE;
        }

        private static long lengths(Rows marks) {
            long known = 0L;
            for (int i = 0; i < marks.lines; i++) {
                known |= 1L << marks.at(i, 0);
                for (int j = 0; j < i; j++) {
                    known |= 1L << Math.abs(marks.at(i, 0) - marks.at(j, 0));
                }
            }
            // Two marks at one place measure 0, which is no length.
            return known & ~1L;
        }

        static int countLengths(Rows marks) {
            return Long.bitCount(lengths(marks));
        }

        static int leastMissing(Rows marks) {
            long known = lengths(marks);
            for (int length = 1; length <= LENGTH_MOST; length++) {
                if ((known >> length & 1L) == 0L) {
                    return length;
                }
            }
            return NONE;
        }

        static int biters(Rows bites, int teeth, int wide) {
            int set = 0;
            for (int i = 0; i < bites.lines; i++) {
                if ((bites.at(i, 0) & teeth) == teeth && bites.at(i, 1) >= wide) {
                    set |= 1 << i;
                }
            }
            return set;
        }

        private int walk(Rows crumbs) {
            int steps = Math.min(crumbs.lines, STEPS_MOST);
            norths[0] = 0;
            easts[0] = 0;
            for (int i = 0; i < steps; i++) {
                int way = crumbs.at(i, 0);
                norths[i + 1] = norths[i] + (way == 0 ? 1 : way == 2 ? -1 : 0);
                easts[i + 1] = easts[i] + (way == 1 ? 1 : way == 3 ? -1 : 0);
            }
            return steps;
        }

        int wayHome(Rows crumbs) {
            int last = walk(crumbs);
            return Math.abs(norths[last]) + Math.abs(easts[last]);
        }

        /** A place counts once, where it is stood on for the second time. */
        int placesCrossed(Rows crumbs) {
            int last = walk(crumbs);
            int count = 0;
            for (int i = 0; i <= last; i++) {
                int before = 0;
                for (int j = 0; j < i; j++) {
                    if (norths[j] == norths[i] && easts[j] == easts[i]) {
                        before++;
                    }
                }
                if (before == 1) {
                    count++;
                }
            }
            return count;
        }

        /** The minute by which all is done at best, if some are baked by one minute and cooled by another. */
        private static int doneBy(Rows loaves, int used, int baked, int cooled) {
            int best = NEVER;
            for (int i = 0; i < loaves.lines; i++) {
                if ((used >> i & 1) == 0) {
                    int bakes = baked + loaves.at(i, 0);
                    int cools = Math.max(cooled, bakes) + loaves.at(i, 1);
                    best = Math.min(best, doneBy(loaves, used | 1 << i, bakes, cools));
                }
            }
            return best == NEVER ? cooled : best;
        }

        static int loafAt(Rows loaves, int place) {
            int best = doneBy(loaves, 0, 0, 0);
            int used = 0;
            int baked = 0;
            int cooled = 0;
            int chosen = NONE;
            for (int at = 0; at <= place; at++) {
                chosen = firstThatKeeps(loaves, used, baked, cooled, best);
                if (chosen == NONE) {
                    return NONE;
                }
                used |= 1 << chosen;
                baked += loaves.at(chosen, 0);
                cooled = Math.max(cooled, baked) + loaves.at(chosen, 1);
            }
            return chosen;
        }

        private static int firstThatKeeps(Rows loaves, int used, int baked, int cooled, int best) {
            for (int i = 0; i < loaves.lines; i++) {
                if ((used >> i & 1) == 0) {
                    int bakes = baked + loaves.at(i, 0);
                    int cools = Math.max(cooled, bakes) + loaves.at(i, 1);
                    if (doneBy(loaves, used | 1 << i, bakes, cools) == best) {
                        return i;
                    }
                }
            }
            return NONE;
        }

        /** More steps than people: then it goes round. */
        static int lineOf(Rows heirs, int who, boolean asksSteps) {
            int one = who;
            for (int steps = 0; steps < PEOPLE; steps++) {
                int before = leftBy(heirs, one);
                if (before == NONE) {
                    return asksSteps ? steps : one;
                }
                one = before;
            }
            return NONE;
        }

        private static int leftBy(Rows heirs, int who) {
            for (int i = 0; i < heirs.lines; i++) {
                if (heirs.at(i, 0) == who) {
                    return heirs.at(i, 1);
                }
            }
            return NONE;
        }

        /** Ways are kept apart by whether their last almond covers three, for the last three lengths. */
        static int windowWays(int n) {
            int other1 = 1;
            int other2 = 0;
            int other3 = 0;
            int three1 = 0;
            int three2 = 0;
            for (int i = 1; i <= n; i++) {
                int other = other1 + three1 + other2 + three2;
                int three = other3;
                other3 = other2;
                other2 = other1;
                other1 = other;
                three2 = three1;
                three1 = three;
            }
            return other1 + three1;
        }

        private static int weightOf(Rows members) {
            int sum = 0;
            for (int i = 0; i < members.lines; i++) {
                sum += members.at(i, 1);
            }
            return sum;
        }

        static int agreed(Rows members) {
            int all = weightOf(members);
            int set = 0;
            for (int bit = 0; bit < COUNCIL_BITS; bit++) {
                int sum = 0;
                for (int i = 0; i < members.lines; i++) {
                    if ((members.at(i, 0) >> bit & 1) == 1) {
                        sum += members.at(i, 1);
                    }
                }
                if (2 * sum > all) {
                    set |= 1 << bit;
                }
            }
            return set;
        }

        /** The heaviest first: no other choice of as many weighs more. */
        static int leastMajority(Rows members) {
            int all = weightOf(members);
            int sum = 0;
            int count = 0;
            for (int weight = 9; weight >= 1; weight--) {
                for (int i = 0; i < members.lines; i++) {
                    if (members.at(i, 1) == weight && 2 * sum <= all) {
                        sum += weight;
                        count++;
                    }
                }
            }
            return count;
        }
    }

    /** The game of bites: a shape is the lengths of its rows, three bits each, the lowest row first. */
    private static final class Slab {
        static final int HIGH_MOST = 5;
        static final int FAR_MOST = 6;

        private static final int ROW_BITS = 3;
        private static final int ROW_MASK = 7;
        private static final int SHAPES = 1 << HIGH_MOST * ROW_BITS;

        private final int[] lost = new int[SHAPES / 32];
        private boolean isKnown;

        int bestBite(int high, int far) {
            if (!isKnown) {
                learn();
                isKnown = true;
            }
            int shape = 0;
            for (int row = 0; row < high; row++) {
                shape |= far << row * ROW_BITS;
            }
            return winningBite(shape);
        }

        /** A bite makes a lesser number of a shape, so all that comes of a shape is known before it. */
        private void learn() {
            for (int shape = 1; shape < SHAPES; shape++) {
                if (isShape(shape) && winningBite(shape) == NONE) {
                    lost[shape >> 5] |= 1 << (shape & 31);
                }
            }
        }

        private static boolean isShape(int shape) {
            int below = FAR_MOST;
            for (int row = 0; row < HIGH_MOST; row++) {
                int length = lengthOf(shape, row);
                if (length > below) {
                    return false;
                }
                below = length;
            }
            return true;
        }

        private static int lengthOf(int shape, int row) {
            return shape >> row * ROW_BITS & ROW_MASK;
        }

        private int winningBite(int shape) {
            for (int row = 0; row < HIGH_MOST; row++) {
                int length = lengthOf(shape, row);
                for (int column = 0; column < length; column++) {
                    if (isLost(bitten(shape, row, column))) {
                        return 10 * row + column;
                    }
                }
            }
            return NONE;
        }

        private boolean isLost(int shape) {
            int word = shape >> 5;
            return word >= 0 && word < lost.length && (lost[word] >> (shape & 31) & 1) == 1;
        }

        private static int bitten(int shape, int row, int column) {
            int rest = 0;
            for (int r = 0; r < HIGH_MOST; r++) {
                int length = lengthOf(shape, r);
                rest |= (r < row ? length : Math.min(length, column)) << r * ROW_BITS;
            }
            return rest;
        }
    }
}
