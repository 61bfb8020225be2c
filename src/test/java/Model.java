import java.math.BigInteger;
import java.util.ArrayDeque;
import java.util.ArrayList;
import java.util.Arrays;
import java.util.Deque;
import java.util.HashMap;
import java.util.HashSet;
import java.util.List;
import java.util.Map;
import java.util.Set;
import java.util.TreeSet;

/**
 * The document said once more in the plainest way, with copies of everything and by trying all
 * there is: what GingerRents answers is compared with it.
 */
final class Model {
    static final class House implements Cloneable {
        int[] wall = new int[4];
        int almonds;
        int teeth;
        int hard;
        int icing;
        int lodgers = 1;
        int door;
        int age;

        House copy() {
            House h = new House();
            h.wall = wall.clone();
            h.almonds = almonds;
            h.teeth = teeth;
            h.hard = hard;
            h.icing = icing;
            h.lodgers = lodgers;
            h.door = door;
            h.age = age;
            return h;
        }

        boolean up() {
            return Arrays.stream(wall).max().getAsInt() > 0;
        }

        int sum() {
            return Arrays.stream(wall).sum();
        }

        int thickest() {
            int most = Arrays.stream(wall).max().getAsInt();
            int w = 0;
            while (wall[w] != most) {
                w++;
            }
            return w;
        }
    }

    /** What quarters and hands change. */
    static final class World {
        List<House> houses = new ArrayList<>();
        int rain;
        int frost;
        int eaten;
        int gnawed;
        int quarter;
        int state;
        List<int[]> book = new ArrayList<>();

        World copy() {
            World w = new World();
            for (House h : houses) {
                w.houses.add(h.copy());
            }
            w.rain = rain;
            w.frost = frost;
            w.eaten = eaten;
            w.gnawed = gnawed;
            w.quarter = quarter;
            w.state = state;
            w.book.addAll(book);
            return w;
        }
    }

    private World world = new World();
    private List<ModelText.LawLine> law = new ArrayList<>();
    private List<String[]> sky = new ArrayList<>();
    private List<String[]> office = new ArrayList<>();
    private List<String[]> next = new ArrayList<>();
    private Map<String, List<int[]>> thoughts = new HashMap<>();
    private final Deque<World> past = new ArrayDeque<>();
    private StringBuilder tape = new StringBuilder();
    private int fault = 0;
    private int faultPlace = -1;
    private boolean thinking = false;

    private World worldThen;
    private List<List<String[]>> rowsThen;
    private List<ModelText.LawLine> lawThen;
    private Map<String, List<int[]>> thoughtsThen;

    int state(int v) {
        int was = world.state;
        world.state = v;
        past.clear();
        return was;
    }

    int house(int wall, int almonds, int teeth) {
        if (wall < 0 || wall > 99 || almonds < 0 || almonds > 9 || teeth < 0 || teeth > 9 || world.houses.size() == 12) {
            return -1;
        }
        past.clear();
        House h = new House();
        Arrays.fill(h.wall, wall);
        h.almonds = almonds;
        h.teeth = teeth;
        world.houses.add(h);
        return world.houses.size() - 1;
    }

    private boolean there(int house) {
        return house >= 0 && house < world.houses.size();
    }

    boolean set(int what, int who, int v) {
        if (what == 8 && v >= 0 && v <= 9) {
            world.rain = v;
            past.clear();
            return true;
        }
        if (what < 0 || what > 7 || !there(who) || v < 0 || v > (what >= 4 && what <= 6 ? 9 : 99)) {
            return false;
        }
        House h = world.houses.get(who);
        switch (what) {
            case 4 -> h.almonds = v;
            case 5 -> h.teeth = v;
            case 6 -> h.hard = v;
            case 7 -> h.lodgers = v;
            default -> h.wall[what] = v;
        }
        past.clear();
        return true;
    }

    private void keep() {
        past.addLast(world.copy());
        if (past.size() > 6) {
            past.removeFirst();
        }
    }

    boolean act(int what, int who, int n) {
        if (!there(who)) {
            return false;
        }
        House h = world.houses.get(who);
        boolean can = switch (what) {
            case 0, 1, 2, 3 -> n >= 1 && n <= h.wall[what];
            case 10, 11, 12, 13 -> n >= 1 && n <= 99;
            case 20 -> canWed(h);
            case 21 -> h.lodgers > 0 && there(n) && n != who && world.houses.get(n).up();
            case 22 -> h.up();
            default -> false;
        };
        if (!can) {
            return false;
        }
        keep();
        switch (what) {
            case 0, 1, 2, 3 -> {
                h.wall[what] -= n;
                world.eaten += n;
                write(0, who, n);
                goIfDown(who);
            }
            case 10, 11, 12, 13 -> h.wall[what - 10] = Math.min(99, h.wall[what - 10] + n);
            case 20 -> wed(who);
            case 21 -> {
                world.houses.get(n).lodgers += h.lodgers;
                h.lodgers = 0;
                write(4, who, n);
            }
            default -> raze(who);
        }
        return true;
    }

    private boolean canWed(House h) {
        return h.up() && h.door == 0 && h.lodgers > 0;
    }

    private void wed(int who) {
        House h = world.houses.get(who);
        int w = h.thickest();
        h.wall[w] = Math.max(0, h.wall[w] - 10);
        h.door = 1;
        h.lodgers++;
        write(5, who, h.lodgers);
        goIfDown(who);
    }

    private void raze(int who) {
        Arrays.fill(world.houses.get(who).wall, 0);
        goIfDown(who);
    }

    private void write(int what, int which, int much) {
        if (!thinking && world.book.size() < 150) {
            world.book.add(new int[] {world.quarter, what, which, much});
        }
    }

    private Set<Integer> near(int house) {
        Set<Integer> near = new TreeSet<>();
        for (String[] row : next) {
            int a = Integer.parseInt(row[0]);
            int b = Integer.parseInt(row[1]);
            if (a == house) {
                near.add(b);
            }
            if (b == house) {
                near.add(a);
            }
        }
        return near;
    }

    private void goIfDown(int who) {
        House h = world.houses.get(who);
        if (h.up() || h.lodgers == 0) {
            return;
        }
        int to = -1;
        for (int n : near(who)) {
            if (to < 0 && world.houses.get(n).up()) {
                to = n;
            }
        }
        if (to >= 0) {
            world.houses.get(to).lodgers += h.lodgers;
        }
        h.lodgers = 0;
        write(4, who, to);
    }

    private int tells(String word, int house, int wall) {
        House h = world.houses.get(house);
        ModelText.Asked asked = w -> switch (w) {
            case "wall" -> h.wall[wall];
            case "sum" -> h.sum();
            case "almonds" -> h.almonds;
            case "teeth" -> h.teeth;
            case "hard" -> h.hard;
            case "icing" -> h.icing;
            case "lodgers" -> h.lodgers;
            case "door" -> h.door;
            case "age" -> h.age;
            case "rain" -> world.rain;
            case "frost" -> world.frost;
            default -> world.quarter;
        };
        int v = switch (word) {
            case "rent" -> 4 + 2 * h.lodgers;
            case "gnaws" -> 300 - 30 * h.hard;
            default -> world.rain - h.hard;
        };
        for (ModelText.LawLine line : law) {
            if (line.word.equals(word) && (line.when == null || line.when.applyAsInt(asked) != 0)) {
                v = line.amount.applyAsInt(asked);
                break;
            }
        }
        return Math.max(0, Math.min(word.equals("gnaws") ? 1000 : 99, v));
    }

    private int quarter() {
        for (String[] row : sky) {
            if (Integer.parseInt(row[0]) == world.quarter) {
                switch (row[1]) {
                    case "rain" -> world.rain = Integer.parseInt(row[2]);
                    case "frost" -> world.frost = 1;
                    default -> world.frost = 0;
                }
            }
        }
        for (String[] row : office) {
            if (Integer.parseInt(row[0]) == world.quarter) {
                officeLine(row);
            }
        }
        Set<Integer> stood = up();
        int count = world.houses.size();
        for (int i = 0; i < count; i++) {
            House h = world.houses.get(i);
            if (!h.up() || h.lodgers == 0) {
                continue;
            }
            int owed = tells("rent", i, h.thickest());
            int nibbled = 0;
            while (owed > 0 && h.up()) {
                h.wall[h.thickest()]--;
                owed--;
                nibbled++;
            }
            world.eaten += nibbled;
            if (nibbled > 0) {
                write(0, i, nibbled);
            }
            if (owed > 0) {
                h.icing += owed;
                write(1, i, owed);
            }
            goIfDown(i);
        }
        for (int i = 0; i < count; i++) {
            House h = world.houses.get(i);
            int lost = 0;
            for (int w = 0; w < 4; w++) {
                if (h.wall[w] > 0) {
                    int gnaws = tells("gnaws", i, w);
                    boolean bites;
                    if (thinking) {
                        bites = gnaws >= 500;
                    } else if (gnaws > 0) {
                        world.state = 1664525 * world.state + 1013904223;
                        bites = Integer.toUnsignedLong(world.state) / 256 % 1000 < gnaws;
                    } else {
                        bites = false;
                    }
                    if (bites) {
                        h.wall[w]--;
                        lost++;
                    }
                }
            }
            world.gnawed += lost;
            if (lost > 0) {
                write(2, i, lost);
            }
        }
        for (int i = 0; i < count; i++) {
            House h = world.houses.get(i);
            int before = h.sum();
            for (int w = 0; w < 4; w++) {
                if (h.wall[w] > 0 && world.frost == 0) {
                    h.wall[w] = Math.max(0, h.wall[w] - tells("melts", i, w));
                }
            }
            if (before > h.sum()) {
                write(3, i, before - h.sum());
            }
        }
        Set<Integer> stands = up();
        for (int i : stands) {
            House h = world.houses.get(i);
            if (world.frost == 1 && h.hard < 9) {
                h.hard++;
            }
            if (h.age < 9999) {
                h.age++;
            }
        }
        for (int i = 0; i < count; i++) {
            goIfDown(i);
        }
        if (world.quarter < 9999) {
            world.quarter++;
        }
        stood.removeAll(stands);
        return stood.size();
    }

    private void officeLine(String[] row) {
        int who = Integer.parseInt(row[2]);
        int wall = Integer.parseInt(row[3]);
        int n = Integer.parseInt(row[4]);
        House h = world.houses.get(who);
        switch (row[1]) {
            case "ice" -> h.icing = Math.max(0, h.icing - n);
            case "bake" -> h.wall[wall] = Math.min(99, h.wall[wall] + n);
            case "wed" -> {
                if (canWed(h)) {
                    wed(who);
                }
            }
            default -> {
                if (h.up()) {
                    raze(who);
                }
            }
        }
    }

    private Set<Integer> up() {
        Set<Integer> up = new TreeSet<>();
        for (int i = 0; i < world.houses.size(); i++) {
            if (world.houses.get(i).up()) {
                up.add(i);
            }
        }
        return up;
    }

    int quarters(int n) {
        if (n < 1 || n > 60 || world.quarter + n > 9999) {
            return -1;
        }
        int fell = 0;
        for (int i = 0; i < n; i++) {
            keep();
            fell += quarter();
        }
        return fell;
    }

    int feed(int... five) {
        if (tape.length() > 380) {
            return -1;
        }
        for (int v : five) {
            for (byte b : BigInteger.valueOf((v & 0xffffffffL) | 1L << 32).toByteArray()) {
                tape.append((char) (b & 255));
            }
            tape.deleteCharAt(tape.length() - 5);
        }
        return tape.length();
    }

    boolean end(int n) {
        if (n < 0 || n > tape.length()) {
            return false;
        }
        tape.setLength(n);
        return true;
    }

    int text(int k) {
        fault = 0;
        faultPlace = -1;
        String text = tape.toString();
        tape.setLength(0);
        if (k < 0 || k > 3) {
            return -1;
        }
        try {
            ModelText read = new ModelText(k, text, world.houses.size());
            switch (k) {
                case 0 -> law = read.law;
                case 1 -> sky = read.rows;
                case 2 -> office = read.rows;
                default -> next = read.rows;
            }
            if (k == 1 || k == 2) {
                past.clear();
            }
            return k == 0 ? read.law.size() : read.rows.size();
        } catch (ModelText.Fault f) {
            fault = f.kind;
            faultPlace = f.place;
            return -1;
        }
    }

    int fault(int what) {
        return what == 0 ? fault : what == 1 ? faultPlace : -1;
    }

    int of(int house, int what) {
        if (!there(house)) {
            return -1;
        }
        House h = world.houses.get(house);
        return switch (what) {
            case 0, 1, 2, 3 -> h.wall[what];
            case 4 -> h.almonds;
            case 5 -> h.teeth;
            case 6 -> h.hard;
            case 7 -> h.lodgers;
            case 8 -> h.icing;
            case 9 -> h.door;
            case 10 -> h.age;
            case 11 -> tells("rent", house, h.thickest());
            case 12 -> bits(near(house));
            case 20, 21, 22, 23 -> tells("gnaws", house, what - 20);
            case 30, 31, 32, 33 -> tells("melts", house, what - 30);
            default -> -1;
        };
    }

    private static int bits(Set<Integer> set) {
        return set.stream().mapToInt(i -> 1 << i).sum();
    }

    int book(int i, int what) {
        return i < 0 || i >= world.book.size() || what < 0 || what > 3 ? -2 : world.book.get(i)[what];
    }

    private World think(int n, int untilDown, int[] when) {
        World kept = world;
        world = world.copy();
        thinking = true;
        for (int i = 1; i <= n; i++) {
            quarter();
            if (untilDown >= 0 && !world.houses.get(untilDown).up()) {
                when[0] = i;
                break;
            }
        }
        thinking = false;
        World then = world;
        world = kept;
        return then;
    }

    int goes(int n, int what) {
        if (n < 1 || n > 60 || what < 0 || what > 3) {
            return -1;
        }
        World then = think(n, -1, null);
        return switch (what) {
            case 0 -> then.eaten;
            case 1 -> (int) then.houses.stream().filter(House::up).count();
            case 2 -> then.houses.stream().mapToInt(h -> h.icing).sum();
            default -> then.houses.stream().mapToInt(h -> h.lodgers).sum();
        };
    }

    int stands(int house) {
        if (!there(house)) {
            return -2;
        }
        if (!world.houses.get(house).up()) {
            return 0;
        }
        int[] when = {-1};
        think(200, house, when);
        return when[0];
    }

    /** Tries every way that comes to no house twice. */
    private int best(int at, int to, Set<Integer> seen, int cost, boolean dearest) {
        if (at == to) {
            return cost;
        }
        int best = -1;
        for (int n : near(at)) {
            if (seen.contains(n)) {
                continue;
            }
            int step = world.houses.get(at).sum() + world.houses.get(n).sum();
            Set<Integer> more = new HashSet<>(seen);
            more.add(n);
            int way = best(n, to, more, dearest ? Math.max(cost, step) : cost + step, dearest);
            if (way >= 0 && (best < 0 || way < best)) {
                best = way;
            }
        }
        return best;
    }

    int hears(int a, int b) {
        return there(a) && there(b) ? best(a, b, Set.of(a), 0, true) : -1;
    }

    int ants(int a, int b) {
        return there(a) && there(b) ? best(a, b, Set.of(a), 0, false) : -1;
    }

    int heard(int a, int v) {
        if (!there(a) || v < 0 || v > 800) {
            return -1;
        }
        Set<Integer> heard = new HashSet<>(Set.of(a));
        boolean more = true;
        while (more) {
            more = false;
            for (int i : List.copyOf(heard)) {
                for (int n : near(i)) {
                    if (world.houses.get(i).sum() + world.houses.get(n).sum() <= v) {
                        more |= heard.add(n);
                    }
                }
            }
        }
        return heard.size() - 1;
    }

    private List<int[]> told(String what) {
        return thoughts.computeIfAbsent(what, w -> new ArrayList<>());
    }

    private int tell(String what, int most, boolean fits, int... values) {
        List<int[]> list = told(what);
        if (values[0] == -1) {
            list.clear();
            return 0;
        }
        if (!fits || list.size() >= most) {
            return -1;
        }
        list.add(values);
        return list.size();
    }

    int piece(int v) {
        return tell("plate", 9, v >= 0 && v <= 99, v);
    }

    int plate(int k, int what) {
        List<int[]> pieces = told("plate");
        int n = pieces.size();
        if (k < 1 || k > 9 || k > n || what < 0 || what > 1) {
            return -1;
        }
        int best = -1;
        int where = Integer.MAX_VALUE;
        for (int cuts = 0; cuts < 1 << (n - 1); cuts++) {
            if (Integer.bitCount(cuts) != k - 1) {
                continue;
            }
            int least = Integer.MAX_VALUE;
            int share = 0;
            int second = -1;
            for (int i = 0; i < n; i++) {
                share += pieces.get(i)[0];
                if (i == n - 1 || (cuts >> i & 1) == 1) {
                    least = Math.min(least, share);
                    share = 0;
                    if (second < 0 && i < n - 1) {
                        second = i + 1;
                    }
                }
            }
            if (least > best) {
                best = least;
                where = second;
            } else if (least == best) {
                where = Math.min(where, second);
            }
        }
        return what == 0 ? best : where;
    }

    int dough(int v) {
        return tell("pans", 8, v >= 1 && v <= 30, v);
    }

    int pans(int c, int what) {
        List<int[]> doughs = told("pans");
        if (c < 1 || c > 60 || what < 0 || what > 1 || doughs.stream().anyMatch(d -> d[0] > c)) {
            return -1;
        }
        if (what == 1) {
            List<Integer> room = new ArrayList<>();
            for (int[] d : doughs) {
                int p = 0;
                while (p < room.size() && room.get(p) < d[0]) {
                    p++;
                }
                if (p == room.size()) {
                    room.add(c);
                }
                room.set(p, room.get(p) - d[0]);
            }
            return room.size();
        }
        int all = (1 << doughs.size()) - 1;
        int[] fewest = new int[all + 1];
        for (int set = 1; set <= all; set++) {
            fewest[set] = 99;
            for (int pan = set; pan > 0; pan = (pan - 1) & set) {
                int load = 0;
                for (int i = 0; i < doughs.size(); i++) {
                    load += (pan >> i & 1) * doughs.get(i)[0];
                }
                if (load <= c) {
                    fewest[set] = Math.min(fewest[set], 1 + fewest[set ^ pan]);
                }
            }
        }
        return fewest[all];
    }

    int mortgage(int d, int r, int p, int what) {
        if (d < 1 || d > 9999 || r < 0 || r > 50 || p < 1 || p > 999 || what < 0 || what > 1) {
            return -1;
        }
        BigInteger debt = BigInteger.valueOf(d);
        int paid = 0;
        for (int i = 1; i <= 400; i++) {
            BigInteger[] part = debt.multiply(BigInteger.valueOf(r)).divideAndRemainder(BigInteger.valueOf(100));
            debt = debt.add(part[0]).add(part[1].signum() > 0 ? BigInteger.ONE : BigInteger.ZERO);
            BigInteger pays = debt.min(BigInteger.valueOf(p));
            debt = debt.subtract(pays);
            paid += pays.intValue();
            if (debt.signum() == 0) {
                return what == 0 ? i : paid;
            }
        }
        return -1;
    }

    int mark(int v) {
        return tell("marks", 5, v >= 1 && v <= 60, v);
    }

    int measures(int what) {
        Set<Integer> lengths = new TreeSet<>();
        List<Integer> marks = new ArrayList<>(List.of(0));
        told("marks").forEach(m -> marks.add(m[0]));
        for (int a : marks) {
            for (int b : marks) {
                if (a > b) {
                    lengths.add(a - b);
                }
            }
        }
        int missing = 1;
        while (lengths.contains(missing)) {
            missing++;
        }
        return what == 0 ? lengths.size() : what == 1 ? missing <= 60 ? missing : -1 : -1;
    }

    int bite(int teeth, int wide) {
        return tell("bites", 8, teeth >= 0 && teeth <= 255 && wide >= 0 && wide <= 9, teeth, wide);
    }

    int whose(int teeth, int wide) {
        if (teeth < 0 || teeth > 255 || wide < 0 || wide > 9) {
            return -1;
        }
        int set = 0;
        for (int i = 0; i < told("bites").size(); i++) {
            int[] b = told("bites").get(i);
            if ((teeth & ~b[0]) == 0 && b[1] >= wide) {
                set += 1 << i;
            }
        }
        return set;
    }

    int crumb(int way) {
        return tell("crumbs", 16, way >= 0 && way <= 3, way);
    }

    int crumbs(int what) {
        int x = 0;
        int y = 0;
        Map<String, Integer> stood = new HashMap<>(Map.of("0 0", 1));
        for (int[] c : told("crumbs")) {
            x += c[0] == 1 ? 1 : c[0] == 3 ? -1 : 0;
            y += c[0] == 0 ? 1 : c[0] == 2 ? -1 : 0;
            stood.merge(x + " " + y, 1, Integer::sum);
        }
        return what == 0 ? Math.abs(x) + Math.abs(y) : what == 1 ? (int) stood.values().stream().filter(n -> n > 1).count() : -1;
    }

    int loaf(int bakes, int cools) {
        return tell("loaves", 6, bakes >= 1 && bakes <= 30 && cools >= 1 && cools <= 30, bakes, cools);
    }

    int ovens(int what) {
        List<int[]> loaves = told("loaves");
        if (what != 0 && (what < 10 || what - 10 >= loaves.size())) {
            return -1;
        }
        List<List<Integer>> orders = new ArrayList<>();
        orders(new ArrayList<>(), loaves.size(), orders);
        int best = Integer.MAX_VALUE;
        List<Integer> first = null;
        for (List<Integer> order : orders) {
            int baked = 0;
            int cooled = 0;
            for (int i : order) {
                baked += loaves.get(i)[0];
                cooled = Math.max(baked, cooled) + loaves.get(i)[1];
            }
            if (cooled < best) {
                best = cooled;
                first = order;
            }
        }
        return what == 0 ? best : first.get(what - 10);
    }

    private static void orders(List<Integer> order, int n, List<List<Integer>> all) {
        if (order.size() == n) {
            all.add(List.copyOf(order));
            return;
        }
        for (int i = 0; i < n; i++) {
            if (!order.contains(i)) {
                order.add(i);
                orders(order, n, all);
                order.remove(order.size() - 1);
            }
        }
    }

    int alone(int what) {
        int best = 0;
        for (int set = (1 << world.houses.size()) - 1; set > 0; set--) {
            boolean good = true;
            for (int i = 0; i < world.houses.size() && good; i++) {
                good = (set >> i & 1) == 0 || world.houses.get(i).up() && (bits(near(i)) & set) == 0;
            }
            if (good && Integer.bitCount(set) >= Integer.bitCount(best)) {
                best = set;
            }
        }
        return what == 0 ? Integer.bitCount(best) : what == 1 ? best : -1;
    }

    int heir(int who, int whose) {
        return tell("heirs", 12, who >= 0 && who <= 11 && whose >= 0 && whose <= 11 && who != whose, who, whose);
    }

    int line(int who, int what) {
        if (who < 0 || who > 11 || what < 0 || what > 1) {
            return -1;
        }
        Set<Integer> seen = new HashSet<>();
        int at = who;
        while (seen.add(at)) {
            int from = at;
            int[] heir = told("heirs").stream().filter(h -> h[0] == from).findFirst().orElse(null);
            if (heir == null) {
                return what == 0 ? seen.size() - 1 : at;
            }
            at = heir[1];
        }
        return -1;
    }

    int window(int n) {
        if (n < 1 || n > 20) {
            return -1;
        }
        // All ways without the rule, less those in which two of three stand side by side somewhere.
        List<int[]> ways = new ArrayList<>();
        for (int i = 0; i <= n; i++) {
            int[] byLast = new int[4];
            for (int last = 1; last <= 3; last++) {
                if (i == last) {
                    byLast[last]++;
                } else if (i > last) {
                    int[] before = ways.get(i - last);
                    byLast[last] = before[1] + before[2] + (last == 3 ? 0 : before[3]);
                }
            }
            ways.add(byLast);
        }
        return Arrays.stream(ways.get(n)).sum();
    }

    int member(int wants, int weight) {
        return tell("members", 8, wants >= 0 && wants <= 4095 && weight >= 1 && weight <= 9, wants, weight);
    }

    int council(int what) {
        List<int[]> members = told("members");
        int all = members.stream().mapToInt(m -> m[1]).sum();
        if (what == 0) {
            int agreed = 0;
            for (int bit = 1; bit < 4096; bit *= 2) {
                int b = bit;
                if (members.stream().filter(m -> (m[0] & b) != 0).mapToInt(m -> m[1]).sum() * 2 > all) {
                    agreed += bit;
                }
            }
            return agreed;
        }
        if (what != 1) {
            return -1;
        }
        int least = members.size();
        for (int set = 0; set < 1 << members.size(); set++) {
            int sum = 0;
            for (int i = 0; i < members.size(); i++) {
                sum += (set >> i & 1) * members.get(i)[1];
            }
            if (sum * 2 > all) {
                least = Math.min(least, Integer.bitCount(set));
            }
        }
        return least;
    }

    private static final Map<String, Boolean> WINS = new HashMap<>();

    /** Whether who is to bite wins; a slab is its squares, row by row. */
    private static boolean wins(boolean[][] slab) {
        if (!slab[0][0]) {
            return true;
        }
        String key = Arrays.deepToString(slab);
        Boolean known = WINS.get(key);
        if (known == null) {
            known = bestBite(slab) >= 0;
            WINS.put(key, known);
        }
        return known;
    }

    private static int bestBite(boolean[][] slab) {
        int best = -1;
        for (int r = slab.length - 1; r >= 0; r--) {
            for (int c = slab[0].length - 1; c >= 0; c--) {
                if (slab[r][c]) {
                    boolean[][] left = new boolean[slab.length][];
                    for (int i = 0; i < slab.length; i++) {
                        left[i] = slab[i].clone();
                        for (int j = c; i >= r && j < left[i].length; j++) {
                            left[i][j] = false;
                        }
                    }
                    if (!wins(left)) {
                        best = 10 * r + c;
                    }
                }
            }
        }
        return best;
    }

    int game(int high, int far) {
        if (high < 1 || high > 5 || far < 1 || far > 6) {
            return -1;
        }
        boolean[][] slab = new boolean[high][far];
        for (boolean[] row : slab) {
            Arrays.fill(row, true);
        }
        return bestBite(slab);
    }

    boolean undo() {
        if (past.isEmpty()) {
            return false;
        }
        world = past.removeLast();
        return true;
    }

    private static Map<String, List<int[]>> copy(Map<String, List<int[]>> map) {
        Map<String, List<int[]>> copy = new HashMap<>();
        map.forEach((k, v) -> copy.put(k, new ArrayList<>(v)));
        return copy;
    }

    boolean image(boolean taken) {
        if (taken) {
            worldThen = world.copy();
            rowsThen = List.of(sky, office, next);
            lawThen = law;
            thoughtsThen = copy(thoughts);
            return true;
        }
        if (worldThen == null) {
            return false;
        }
        world = worldThen.copy();
        sky = rowsThen.get(0);
        office = rowsThen.get(1);
        next = rowsThen.get(2);
        law = lawThen;
        thoughts = copy(thoughtsThen);
        past.clear();
        return true;
    }

    int look(int what) {
        return switch (what) {
            case 0 -> world.houses.size();
            case 1 -> world.rain;
            case 2 -> world.frost;
            case 3 -> world.eaten;
            case 4 -> world.gnawed;
            case 5 -> world.quarter;
            case 6 -> bits(up());
            case 7 -> world.book.size();
            case 8 -> world.state;
            case 9 -> law.size();
            case 10 -> sky.size();
            case 11 -> office.size();
            case 12 -> next.size();
            case 13 -> past.size();
            default -> -1;
        };
    }
}
