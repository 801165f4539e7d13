import java.util.ArrayDeque;
import java.util.ArrayList;
import java.util.Deque;
import java.util.List;

/** The document once more, written as plainly and as slowly as can be, to set the class against. */
final class Model {
    static final class Cat {
        int joy;
        int bowl;
        int grief;
        int arch;
    }

    static final class Arch {
        int load;
        int sag;
    }

    static final class World {
        List<Arch> arches = new ArrayList<>();
        List<Cat> cats = new ArrayList<>();
        int store = 30;
        int hour;
        int drops;
        String rule = "";

        World copy() {
            World w = new World();
            for (Arch a : arches) {
                Arch b = new Arch();
                b.load = a.load;
                b.sag = a.sag;
                w.arches.add(b);
            }
            for (Cat c : cats) {
                Cat d = new Cat();
                d.joy = c.joy;
                d.bowl = c.bowl;
                d.grief = c.grief;
                d.arch = c.arch;
                w.cats.add(d);
            }
            w.store = store;
            w.hour = hour;
            w.drops = drops;
            w.rule = rule;
            return w;
        }

        int inArch(int a) {
            int n = 0;
            for (Cat c : cats) {
                if (c.arch == a) {
                    n++;
                }
            }
            return n;
        }

        int purr(int cat) {
            Cat c = cats.get(cat);
            int v = new Reader(rule.isEmpty() ? "j-g" : rule, this, c, inArch(c.arch) - 1).whole();
            return v < 0 ? 0 : v > 9 ? 9 : v;
        }

        int hold(int arch) {
            int sum = 0;
            for (int c = 0; c < cats.size(); c++) {
                if (cats.get(c).arch == arch) {
                    sum += purr(c);
                }
            }
            return sum;
        }

        int holdAll() {
            int sum = 0;
            for (int a = 0; a < arches.size(); a++) {
                sum += hold(a);
            }
            return sum;
        }

        int held() {
            int bits = 0;
            for (int a = 0; a < arches.size(); a++) {
                if (hold(a) >= arches.get(a).load) {
                    bits += 1 << a;
                }
            }
            return bits;
        }

        int sags() {
            int sum = 0;
            for (Arch a : arches) {
                sum += a.sag;
            }
            return sum;
        }

        int pass(int n) {
            int dropped = 0;
            for (int i = 0; i < n; i++) {
                int[] holds = new int[arches.size()];
                for (int a = 0; a < holds.length; a++) {
                    holds[a] = hold(a);
                }
                for (int a = 0; a < holds.length; a++) {
                    Arch arch = arches.get(a);
                    if (holds[a] < arch.load) {
                        if (arch.sag == 9) {
                            dropped++;
                            drops = Math.min(9999, drops + 1);
                        } else {
                            arch.sag++;
                        }
                    }
                    if (holds[a] > arch.load) {
                        arch.sag = Math.max(0, arch.sag - 1);
                    }
                }
                for (Cat c : cats) {
                    if (c.bowl == 0) {
                        c.joy = Math.max(0, c.joy - 1);
                    } else {
                        c.bowl--;
                    }
                    c.grief = Math.max(0, c.grief - 1);
                }
                hour++;
            }
            return dropped;
        }

        World later(int n) {
            World w = copy();
            w.pass(n);
            return w;
        }

        boolean hasArch(int a) {
            return a >= 0 && a < arches.size();
        }

        boolean hasCat(int c) {
            return c >= 0 && c < cats.size();
        }

        int feed(int cat, int n) {
            if (!hasCat(cat) || n < 1 || n > 9) {
                return -1;
            }
            if (n > store) {
                return -2;
            }
            if (cats.get(cat).bowl + n > 9) {
                return -3;
            }
            store -= n;
            return cats.get(cat).bowl += n;
        }

        int pet(int cat) {
            return !hasCat(cat) ? -1 : cats.get(cat).joy == 9 ? -2 : ++cats.get(cat).joy;
        }

        int grieve(int cat, int n) {
            if (!hasCat(cat) || n < 1 || n > 9) {
                return -1;
            }
            return cats.get(cat).grief = Math.min(9, cats.get(cat).grief + n);
        }

        int set(int cat, int arch) {
            if (!hasCat(cat) || !hasArch(arch)) {
                return -1;
            }
            int was = cats.get(cat).arch;
            cats.get(cat).arch = arch;
            return was == arch ? -2 : Math.abs(was - arch);
        }

        int load(int arch, int v) {
            if (!hasArch(arch) || v < 0 || v > 9) {
                return -1;
            }
            int was = arches.get(arch).load;
            arches.get(arch).load = v;
            return was == v ? -2 : 10 + was;
        }
    }

    /** A rule is read and told at once; a fault is an IllegalArgumentException. */
    static final class Reader {
        final String s;
        final World w;
        final Cat c;
        final int others;
        int p;
        int depth;

        Reader(String s, World w, Cat c, int others) {
            this.s = s;
            this.w = w;
            this.c = c;
            this.others = others;
        }

        int whole() {
            int v = expression();
            if (p != s.length()) {
                throw new IllegalArgumentException();
            }
            return v;
        }

        char peek() {
            return p < s.length() ? s.charAt(p) : (char) 0;
        }

        int expression() {
            int v = sum();
            char op = peek();
            if (op == '<' || op == '>' || op == '=') {
                p++;
                int u = sum();
                return (op == '<' ? v < u : op == '>' ? v > u : v == u) ? 1 : 0;
            }
            return v;
        }

        int sum() {
            int v = product();
            while (peek() == '+' || peek() == '-') {
                char op = s.charAt(p++);
                int u = product();
                v = op == '+' ? v + u : v - u;
            }
            return v;
        }

        int product() {
            int v = negated();
            while (peek() == '*' || peek() == '/') {
                char op = s.charAt(p++);
                int u = negated();
                v = op == '*' ? v * u : u == 0 ? 0 : v / u;
            }
            return v;
        }

        int negated() {
            if (peek() == '-') {
                p++;
                return -negated();
            }
            return thing();
        }

        int thing() {
            char t = peek();
            if (t >= '0' && t <= '9') {
                int from = p;
                while (peek() >= '0' && peek() <= '9') {
                    p++;
                }
                if (p - from > 3) {
                    throw new IllegalArgumentException();
                }
                return Integer.parseInt(s.substring(from, p));
            }
            p++;
            if (t == '(') {
                depth++;
                if (depth > 4) {
                    throw new IllegalArgumentException();
                }
                int v = expression();
                if (peek() != ')') {
                    throw new IllegalArgumentException();
                }
                p++;
                depth--;
                return v;
            }
            switch (t) {
                case 'j': return c.joy;
                case 'b': return c.bowl;
                case 'g': return c.grief;
                case 'k': return others;
                case 'l': return w.arches.get(c.arch).load;
                case 's': return w.arches.get(c.arch).sag;
                case 'n': return w.hour % 7;
                default: throw new IllegalArgumentException();
            }
        }
    }

    World w = new World();
    StringBuilder text = new StringBuilder();
    List<Long> row = new ArrayList<>();
    Deque<World> past = new ArrayDeque<>();
    World[] kept = new World[2];
    List<int[]> felt = new ArrayList<>();
    List<int[]> heard = new ArrayList<>();

    private void tell(long... numbers) {
        row.clear();
        for (long n : numbers) {
            row.add(n);
        }
    }

    private String read() {
        String s = text.toString();
        text.setLength(0);
        return s;
    }

    private static boolean digits(String s) {
        return s.matches("[0-9]*");
    }

    int sign(int v) {
        if (text.length() > 76) {
            return -1;
        }
        for (int i = 3; i >= 0; i--) {
            text.append((char) (v >> 8 * i & 255));
        }
        return text.length();
    }

    boolean end(int n) {
        if (n < 0 || n > text.length()) {
            return false;
        }
        text.setLength(n);
        return true;
    }

    /** Where the first fault is in lines of so many digits, or -1. */
    private int lineFault(String s, int digits, int limit, int room, int lastBelow) {
        if (s.isEmpty()) {
            return -1;
        }
        String[] lines = s.split(";", -1);
        int at = 0;
        for (int i = 0; i < lines.length; i++) {
            if (i >= room) {
                return Math.min(limit, at);
            }
            for (int d = 0; d < digits; d++) {
                boolean good = d < lines[i].length() && digits(lines[i].substring(d, d + 1));
                if (!good || d == digits - 1 && lines[i].charAt(d) - '0' >= lastBelow) {
                    return Math.min(limit, at + d);
                }
            }
            if (lines[i].length() > digits) {
                return Math.min(limit, at + digits);
            }
            at += digits + 1;
        }
        return s.length() > limit ? limit : -1;
    }

    int arches() {
        String s = read();
        int fault = lineFault(s, 1, 11, 6 - w.arches.size(), 10);
        if (fault >= 0 || s.isEmpty()) {
            return -1 - fault;
        }
        String[] lines = s.split(";");
        for (String line : lines) {
            Arch a = new Arch();
            a.load = Integer.parseInt(line);
            w.arches.add(a);
        }
        past.clear();
        return lines.length;
    }

    int cats() {
        String s = read();
        int fault = lineFault(s, 3, 31, 8 - w.cats.size(), w.arches.size());
        if (fault >= 0 || s.isEmpty()) {
            return -1 - fault;
        }
        String[] lines = s.split(";");
        for (String line : lines) {
            Cat c = new Cat();
            c.joy = line.charAt(0) - '0';
            c.bowl = line.charAt(1) - '0';
            c.arch = line.charAt(2) - '0';
            w.cats.add(c);
        }
        past.clear();
        return lines.length;
    }

    private static boolean wholeRule(String s) {
        World w = new World();
        w.arches.add(new Arch());
        try {
            new Reader(s, w, new Cat(), 0).whole();
            return true;
        } catch (IllegalArgumentException e) {
            return false;
        }
    }

    private static boolean beginsRule(String s) {
        for (String more : new String[] {"", "j", ")", "))", ")))", "))))", "j)", "j))", "j)))", "j))))"}) {
            if (wholeRule(s + more)) {
                return true;
            }
        }
        return false;
    }

    private static int ruleFault(String s) {
        if (s.isEmpty()) {
            return -1;
        }
        for (int p = 0; p < s.length(); p++) {
            if (p == 40 || !beginsRule(s.substring(0, p + 1))) {
                return p;
            }
        }
        return wholeRule(s) ? -1 : s.length();
    }

    int rule() {
        String s = read();
        int fault = ruleFault(s);
        if (fault >= 0) {
            return -1 - fault;
        }
        w.rule = s;
        return 0;
    }

    /** -1000 stands for NoSuchElementException. */
    int arch(int arch, int what) {
        if (!w.hasArch(arch) || what < 0 || what > 3) {
            return -1000;
        }
        int bits = 0;
        for (int c = 0; c < w.cats.size(); c++) {
            bits |= w.cats.get(c).arch == arch ? 1 << c : 0;
        }
        return new int[] {w.arches.get(arch).load, w.arches.get(arch).sag, bits, w.hold(arch)}[what];
    }

    int cat(int cat, int what) {
        if (!w.hasCat(cat) || what < 0 || what > 4) {
            return -1000;
        }
        Cat c = w.cats.get(cat);
        return new int[] {c.joy, c.bowl, c.grief, c.arch, w.purr(cat)}[what];
    }

    int sheet(int kind, int n, int f, int step) {
        if (kind < 0 || kind > 3 || n > 6) {
            return -1;
        }
        if (kind < 3 && n < 0) {
            return -2;
        }
        int sum = 0;
        int v = f;
        for (int a = 0; a < w.arches.size(); a++) {
            int entry = kind == 0 ? (byte) v : kind == 1 ? (short) v : v;
            w.arches.get(a).load = kind == 3 || a >= n ? 0 : Math.max(0, Math.min(9, entry));
            sum += w.arches.get(a).load;
            v += step;
        }
        return kind == 3 ? -3 : sum;
    }

    private void push(World before) {
        past.addLast(before);
        if (past.size() > 12) {
            past.removeFirst();
        }
    }

    private int pushed(World before, int answer) {
        if (answer >= 0) {
            push(before);
        }
        return answer;
    }

    int joys() {
        int sum = 0;
        for (Cat c : w.cats) {
            sum += c.joy;
        }
        return sum;
    }

    int hours(int n) {
        if (n < 0 || n > 60) {
            return -1;
        }
        if (n > 0) {
            push(w.copy());
        }
        int dropped = w.pass(n);
        tell(dropped, joys());
        return w.sags();
    }

    int feeds(int cat, int n) {
        return pushed(w.copy(), w.feed(cat, n));
    }

    int pets(int cat) {
        return pushed(w.copy(), w.pet(cat));
    }

    int grieves(int cat, int n) {
        return pushed(w.copy(), w.grieve(cat, n));
    }

    int sets(int cat, int arch) {
        return pushed(w.copy(), w.set(cat, arch));
    }

    int loads(int arch, int v) {
        return pushed(w.copy(), w.load(arch, v));
    }

    int night() {
        String s = read();
        String acts = "(n[0-9]|p[0-9]|[fg][0-9][1-9]|[sl][0-9][0-9])*";
        for (int p = 0; p < s.length(); p++) {
            String head = s.substring(0, p + 1);
            boolean begins = head.matches(acts) || (head + "1").matches(acts) || (head + "11").matches(acts);
            if (p == 60 || !begins) {
                return -1 - p;
            }
        }
        if (!s.matches(acts)) {
            return -1 - s.length();
        }
        World before = w.copy();
        int done = 0;
        int stopped = 0;
        while (!s.isEmpty() && stopped == 0) {
            char kind = s.charAt(0);
            int size = kind == 'n' || kind == 'p' ? 2 : 3;
            int a = s.charAt(1) - '0';
            int b = size == 3 ? s.charAt(2) - '0' : 0;
            int answer = kind == 'n' ? w.pass(a) : kind == 'p' ? w.pet(a) : kind == 'f' ? w.feed(a, b)
                : kind == 'g' ? w.grieve(a, b) : kind == 's' ? w.set(a, b) : w.load(a, b);
            if (answer < 0) {
                stopped = 1;
            } else {
                done++;
            }
            s = s.substring(size);
        }
        if (done > 0) {
            push(before);
        }
        tell(stopped, w.sags());
        return done;
    }

    int undo() {
        if (past.isEmpty()) {
            return -1;
        }
        String rule = w.rule;
        w = past.removeLast();
        w.rule = rule;
        return past.size();
    }

    int holds() {
        int lack = 0;
        for (int a = 0; a < w.arches.size(); a++) {
            lack += Math.max(0, w.arches.get(a).load - w.hold(a));
        }
        tell(Integer.bitCount(w.held()), lack);
        return w.held();
    }

    int later(int arch, int n) {
        if (!w.hasArch(arch) || n < 0 || n > 99) {
            return -1;
        }
        World t = w.later(n);
        tell(t.hold(arch), t.sags());
        return t.arches.get(arch).sag;
    }

    private int firstOf(List<Integer> hours) {
        if (hours.isEmpty()) {
            return -2;
        }
        tell(hours.size());
        return hours.get(0);
    }

    int when(int arch, int v) {
        if (!w.hasArch(arch) || v < 0 || v > 9) {
            return -1;
        }
        List<Integer> hours = new ArrayList<>();
        World t = w.copy();
        for (int h = 0; h <= 99; h++) {
            if (t.arches.get(arch).sag >= v) {
                hours.add(h);
            }
            t.pass(1);
        }
        return firstOf(hours);
    }

    int down() {
        World t = w.copy();
        for (int h = 0; h <= 99; h++) {
            int bits = 0;
            for (int a = 0; a < t.arches.size(); a++) {
                bits |= t.arches.get(a).sag == 9 ? 1 << a : 0;
            }
            if (bits != 0) {
                tell(bits);
                return h;
            }
            t.pass(1);
        }
        return -2;
    }

    int safe() {
        List<Integer> hours = new ArrayList<>();
        World t = w.copy();
        for (int h = 0; h <= 99; h++) {
            if (t.sags() == 0) {
                hours.add(h);
            }
            t.pass(1);
        }
        return firstOf(hours);
    }

    int loudest(int n) {
        if (n < 0 || n > 99) {
            return -1;
        }
        List<Integer> all = new ArrayList<>();
        World t = w.copy();
        for (int h = 0; h <= n; h++) {
            all.add(t.holdAll());
            t.pass(1);
        }
        int most = java.util.Collections.max(all);
        int least = java.util.Collections.min(all);
        tell(all.indexOf(most), least, all.indexOf(least));
        return most;
    }

    int weakest() {
        for (int lack = 9; lack >= -72; lack--) {
            for (int a = 0; a < w.arches.size(); a++) {
                if (w.arches.get(a).load - w.hold(a) == lack) {
                    tell(100 + lack);
                    return a;
                }
            }
        }
        return -2;
    }

    int trades() {
        int most = Integer.bitCount(w.held());
        tell();
        for (int c = 0; c < w.cats.size(); c++) {
            for (int d = c + 1; d < w.cats.size(); d++) {
                World t = w.copy();
                t.cats.get(c).arch = w.cats.get(d).arch;
                t.cats.get(d).arch = w.cats.get(c).arch;
                if (Integer.bitCount(t.held()) > most) {
                    most = Integer.bitCount(t.held());
                    tell(c, d);
                }
            }
        }
        return most;
    }

    /** HOLD of an arch in a world with these cats alone, all in it. */
    private int holdWith(int arch, int bits) {
        World t = w.copy();
        t.cats.clear();
        for (int c = 0; c < w.cats.size(); c++) {
            if ((bits >> c & 1) == 1) {
                Cat cat = w.copy().cats.get(c);
                cat.arch = arch;
                t.cats.add(cat);
            }
        }
        return t.hold(arch);
    }

    int needs(int arch) {
        if (!w.hasArch(arch)) {
            return -1;
        }
        for (int size = 0; size <= w.cats.size(); size++) {
            for (int bits = 0; bits < 1 << w.cats.size(); bits++) {
                if (Integer.bitCount(bits) == size && holdWith(arch, bits) >= w.arches.get(arch).load) {
                    tell(bits, holdWith(arch, bits));
                    return size;
                }
            }
        }
        return -2;
    }

    private int mostGuarded;
    private int[] guardRow;

    private void guard(int a, int used, int held, int[] so, boolean[][] can) {
        if (a == so.length) {
            if (held > mostGuarded) {
                mostGuarded = held;
                guardRow = so.clone();
            }
            return;
        }
        for (int c = -1; c < w.cats.size(); c++) {
            if (c < 0 || (used >> c & 1) == 0) {
                boolean holds = c < 0 ? w.arches.get(a).load == 0 : can[a][c];
                so[a] = c;
                guard(a + 1, c < 0 ? used : used | 1 << c, held + (holds ? 1 : 0), so, can);
            }
        }
    }

    int guards() {
        boolean[][] can = new boolean[w.arches.size()][w.cats.size()];
        for (int a = 0; a < w.arches.size(); a++) {
            for (int c = 0; c < w.cats.size(); c++) {
                can[a][c] = holdWith(a, 1 << c) >= w.arches.get(a).load;
            }
        }
        mostGuarded = -1;
        guard(0, 0, 0, new int[w.arches.size()], can);
        tell();
        for (int c : guardRow) {
            row.add((long) c);
        }
        return mostGuarded;
    }

    int best(int cat, int n) {
        if (!w.hasCat(cat) || n < 1 || n > 30) {
            return -1;
        }
        int where = -1;
        int least = 1000;
        for (int a = 0; a < w.arches.size(); a++) {
            World t = w.copy();
            t.cats.get(cat).arch = a;
            t.pass(n);
            if (t.sags() < least) {
                least = t.sags();
                where = a;
            }
        }
        tell(least, w.later(n).sags());
        return where;
    }

    int cheers(int n) {
        if (n < 1 || n > 30) {
            return -1;
        }
        if (w.cats.isEmpty()) {
            return -2;
        }
        int who = -1;
        int least = 1000;
        for (int c = 0; c < w.cats.size(); c++) {
            World t = w.copy();
            t.pet(c);
            t.pass(n);
            if (t.sags() < least) {
                least = t.sags();
                who = c;
            }
        }
        tell(least, w.later(n).sags());
        return who;
    }

    int bears(int arch) {
        String s = read();
        for (int p = 0; p < s.length(); p++) {
            if (p == 20 || !digits(s.substring(p, p + 1))) {
                return -1 - p;
            }
        }
        if (s.isEmpty()) {
            return -1;
        }
        if (!w.hasArch(arch)) {
            return -100;
        }
        World t = w.copy();
        int first = s.length();
        for (int h = 0; h < s.length(); h++) {
            t.arches.get(arch).load = s.charAt(h) - '0';
            if (t.hold(arch) < s.charAt(h) - '0') {
                first = Math.min(first, h);
            }
            t.pass(1);
        }
        tell(t.arches.get(arch).sag);
        return first;
    }

    /** The fewest steps and the end, by all ways of so many steps, at most 15. */
    private int[] tour(int arch) {
        int goal = 0;
        for (int a = 0; a < w.arches.size(); a++) {
            goal |= w.arches.get(a).sag > 0 ? 1 << a : 0;
        }
        boolean[][] at = new boolean[w.arches.size()][64];
        at[arch][1 << arch] = true;
        for (int steps = 0; steps < 16; steps++) {
            for (int a = 0; a < w.arches.size(); a++) {
                for (int seen = 0; seen < 64; seen++) {
                    if (at[a][seen] && (seen & goal) == goal) {
                        return new int[] {steps, a};
                    }
                }
            }
            boolean[][] next = new boolean[w.arches.size()][64];
            for (int a = 0; a < w.arches.size(); a++) {
                for (int seen = 0; seen < 64; seen++) {
                    for (int b = a - 1; b <= a + 1; b += 2) {
                        if (at[a][seen] && w.hasArch(b)) {
                            next[b][seen | 1 << b] = true;
                        }
                    }
                }
            }
            at = next;
        }
        throw new IllegalStateException();
    }

    int trolley(int arch) {
        if (!w.hasArch(arch)) {
            return -1;
        }
        tell(tour(arch)[1]);
        return tour(arch)[0];
    }

    int depot() {
        int where = -2;
        int fewest = 1000;
        for (int a = 0; a < w.arches.size(); a++) {
            if (tour(a)[0] < fewest) {
                fewest = tour(a)[0];
                where = a;
            }
        }
        if (where >= 0) {
            tell(fewest);
        }
        return where;
    }

    int felt(int arch, int h) {
        if (!w.hasArch(arch) || h < 0 || h > 72 || felt.size() == 10) {
            return -1;
        }
        felt.add(new int[] {arch, h});
        return felt.size();
    }

    int forget() {
        int n = felt.size();
        felt.clear();
        return n;
    }

    private int holdSilent(int arch, int silent) {
        boolean in = silent >= 0 && w.cats.get(silent).arch == arch;
        return w.hold(arch) - (in ? w.purr(silent) : 0);
    }

    private boolean fitsAll(int silent) {
        for (int[] note : felt) {
            if (holdSilent(note[0], silent) != note[1]) {
                return false;
            }
        }
        return true;
    }

    private int fitting() {
        int bits = 0;
        for (int c = 0; c < w.cats.size(); c++) {
            bits |= fitsAll(c) ? 1 << c : 0;
        }
        return bits;
    }

    int fits() {
        tell(Integer.bitCount(fitting()), fitsAll(-1) ? 1 : 0);
        return fitting();
    }

    int feels() {
        int bits = fitting();
        int where = -2;
        int fewest = 1000;
        for (int a = 0; a < w.arches.size() && bits != 0; a++) {
            int[] groups = new int[73];
            int most = 0;
            for (int c = 0; c < w.cats.size(); c++) {
                if ((bits >> c & 1) == 1) {
                    most = Math.max(most, ++groups[holdSilent(a, c)]);
                }
            }
            if (most < fewest) {
                fewest = most;
                where = a;
            }
        }
        if (where >= 0) {
            tell(fewest);
        }
        return where;
    }

    private int spread(int cat, int n) {
        int bits = 1 << cat;
        for (int h = 0; h < n; h++) {
            int next = bits;
            for (int c = 0; c < w.cats.size(); c++) {
                for (int d = 0; d < w.cats.size(); d++) {
                    int far = w.cats.get(c).arch - w.cats.get(d).arch;
                    if ((bits >> c & 1) == 1 && far >= -1 && far <= 1) {
                        next |= 1 << d;
                    }
                }
            }
            bits = next;
        }
        return bits;
    }

    int spreads(int cat, int n) {
        if (!w.hasCat(cat) || n < 0 || n > 9) {
            return -1;
        }
        int hours = 0;
        while (spread(cat, hours) != spread(cat, 20)) {
            hours++;
        }
        tell(Integer.bitCount(spread(cat, n)), hours);
        return spread(cat, n);
    }

    private static boolean mayBeHeard(int what, int v) {
        return what >= 0 && what <= 4 && v >= 0 && v <= new int[] {9, 9, 5, 9, 1}[what];
    }

    int heard(int what, int v) {
        if (!mayBeHeard(what, v) || heard.size() == 12) {
            return -1;
        }
        heard.add(new int[] {what, v});
        return heard.size();
    }

    int denies() {
        int n = heard.size();
        heard.clear();
        return n;
    }

    private boolean isSo(int c, int what, int v) {
        Cat cat = w.cats.get(c);
        return what == 0 ? cat.joy >= v : what == 1 ? cat.bowl >= v : what == 2 ? cat.arch == v
            : what == 3 ? w.purr(c) >= v : v == 1 ? cat.grief > 0 : cat.grief == 0;
    }

    private int suiting() {
        int bits = 0;
        for (int c = 0; c < w.cats.size(); c++) {
            boolean all = true;
            for (int[] note : heard) {
                all &= isSo(c, note[0], note[1]);
            }
            bits |= all ? 1 << c : 0;
        }
        return bits;
    }

    int suits() {
        tell(Integer.bitCount(suiting()));
        return suiting();
    }

    int asks() {
        int bits = suiting();
        if (bits == 0) {
            return -2;
        }
        int question = -1;
        int fewest = 1000;
        for (int q = 0; q < 50; q++) {
            if (mayBeHeard(q / 10, q % 10)) {
                int so = 0;
                int not = 0;
                for (int c = 0; c < w.cats.size(); c++) {
                    if ((bits >> c & 1) == 1) {
                        if (isSo(c, q / 10, q % 10)) {
                            so++;
                        } else {
                            not++;
                        }
                    }
                }
                if (Math.max(so, not) < fewest) {
                    fewest = Math.max(so, not);
                    question = q;
                }
            }
        }
        tell(fewest);
        return question;
    }

    /** Over all sets of silent cats; arch -1: all arches. */
    private void chance(int arch, int p) {
        long upper = 0;
        long lower = 1;
        for (int c = 0; c < w.cats.size(); c++) {
            lower *= 10;
        }
        int[] purrs = new int[w.cats.size()];
        for (int c = 0; c < purrs.length; c++) {
            purrs[c] = w.purr(c);
        }
        for (int silent = 0; silent < 1 << purrs.length; silent++) {
            long weight = 1;
            int[] holds = new int[w.arches.size()];
            for (int c = 0; c < purrs.length; c++) {
                boolean still = (silent >> c & 1) == 1;
                weight *= still ? p : 10 - p;
                holds[w.cats.get(c).arch] += still ? 0 : purrs[c];
            }
            boolean all = true;
            for (int a = 0; a < holds.length; a++) {
                all &= arch >= 0 && a != arch || holds[a] >= w.arches.get(a).load;
            }
            upper += all ? weight : 0;
        }
        java.math.BigInteger d = java.math.BigInteger.valueOf(upper).gcd(java.math.BigInteger.valueOf(lower));
        tell(upper / d.longValue(), lower / d.longValue());
    }

    int odds(int arch, int p) {
        if (!w.hasArch(arch) || p < 0 || p > 10) {
            return -1;
        }
        chance(arch, p);
        return 0;
    }

    int stands(int p) {
        if (p < 0 || p > 10) {
            return -1;
        }
        chance(-1, p);
        return 0;
    }

    private static int grundy(int n, int[] known) {
        if (known[n] < 0) {
            java.util.Set<Integer> seen = new java.util.HashSet<>();
            for (int a = 1; a < n - a; a++) {
                seen.add(grundy(a, known) ^ grundy(n - a, known));
            }
            int least = 0;
            while (seen.contains(least)) {
                least++;
            }
            known[n] = least;
        }
        return known[n];
    }

    int litters(int n) {
        if (n < 0 || n > 40) {
            return -1;
        }
        int[] known = new int[41];
        java.util.Arrays.fill(known, -1);
        tell();
        for (int a = 1; a < n - a && row.isEmpty(); a++) {
            if ((grundy(a, known) ^ grundy(n - a, known)) == 0) {
                tell(a);
            }
        }
        return row.isEmpty() ? 0 : 1;
    }

    private static int[] worth(int x, int y, int v) {
        int[] has = {3 * x, 3 * y};
        if (x + y <= v) {
            has[0] += 20;
            has[1] += 20;
        }
        if (x > y) {
            has[0] -= 4;
        }
        if (y > x) {
            has[1] -= 4;
        }
        return has;
    }

    int rests(int v) {
        if (v < 0 || v > 18) {
            return -1;
        }
        tell();
        int pairs = 0;
        for (int x = 9; x >= 0; x--) {
            for (int y = 9; y >= 0; y--) {
                boolean stays = true;
                for (int z = 0; z <= 9; z++) {
                    stays &= worth(z, y, v)[0] <= worth(x, y, v)[0] && worth(x, z, v)[1] <= worth(x, y, v)[1];
                }
                if (stays) {
                    pairs++;
                    tell(x, y);
                }
            }
        }
        return pairs;
    }

    int law() {
        String s = read();
        int fault = ruleFault(s);
        if (fault >= 0) {
            return -10000 - fault;
        }
        World t = w.copy();
        t.rule = s;
        int by = t.later(10).sags();
        int as = w.later(10).sags();
        tell(by, as);
        for (int a = 0; a < w.arches.size(); a++) {
            row.add((long) t.hold(a));
        }
        return by - as;
    }

    private long state;

    private int draw(int n) {
        state = state * 1103515245L + 12345L & 0xFFFFFFFFL;
        return (int) (state / 65536 % n);
    }

    int years(int seed, int n) {
        if (n < 1 || n > 60) {
            return -1;
        }
        World t = w.copy();
        state = seed & 0xFFFFFFFFL;
        int dropped = 0;
        for (int i = 0; i < n; i++) {
            int what = draw(4);
            if (what <= 1) {
                dropped += t.pass(1);
            } else if (!t.cats.isEmpty()) {
                int cat = draw(t.cats.size());
                if (what == 2) {
                    t.feed(cat, draw(3) + 1);
                } else {
                    t.grieve(cat, draw(5) + 1);
                }
            }
        }
        tell(dropped, t.store);
        return t.sags();
    }

    boolean keep(int i) {
        if (i < 0 || i > 1) {
            return false;
        }
        kept[i] = w.copy();
        return true;
    }

    boolean again(int i) {
        if (i < 0 || i > 1 || kept[i] == null) {
            return false;
        }
        if (kept[i].arches.size() != w.arches.size() || kept[i].cats.size() != w.cats.size()) {
            return false;
        }
        String rule = w.rule;
        w = kept[i].copy();
        w.rule = rule;
        past.clear();
        return true;
    }

    int count(int what) {
        int loads = 0;
        for (Arch a : w.arches) {
            loads += a.load;
        }
        int[] all = {w.arches.size(), w.cats.size(), w.hour, w.store, w.drops, w.sags(), loads, joys(), w.holdAll(),
            felt.size(), heard.size(), past.size(), row.size(), text.length()};
        return what >= 0 && what < all.length ? all[what] : -1;
    }
}
