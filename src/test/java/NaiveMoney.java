import java.util.ArrayList;
import java.util.Arrays;
import java.util.HashMap;
import java.util.List;
import java.util.Map;

/**
 * A second reading of the document, as plain and slow as it can be: books are the entries added up,
 * texts are worked off from their words, the end is a copy of everything that goes on.
 * AgainstNaiveTest compares the program with it.
 */
final class NaiveMoney {
    static final int NO = -100000000;

    static final class Cheque {
        int number, drawer, on, payee, at, amount, day, state, trains, hold, done = -1;

        Cheque copy() {
            Cheque c = new Cheque();
            c.number = number;
            c.drawer = drawer;
            c.on = on;
            c.payee = payee;
            c.at = at;
            c.amount = amount;
            c.day = day;
            c.state = state;
            c.trains = trains;
            c.hold = hold;
            c.done = done;
            return c;
        }
    }

    static final class State {
        int now;
        int[] town = new int[4];
        int[][] rail = {{0, 2, 2}, {2, 0, 2}, {2, 2, 0}};
        boolean[] closed = new boolean[400];
        boolean[] snow = new boolean[400];
        String[] texts = {"", "", "", "", ""};
        List<Cheque> cheques = new ArrayList<>();
        List<int[]> entries = new ArrayList<>();
        Map<Integer, int[][]> kept = new HashMap<>();
        int[][] alone = new int[6][4];
        List<int[]> payments = new ArrayList<>();
        int kiters;

        State() {
            for (int[] row : alone) {
                Arrays.fill(row, -1);
            }
        }

        State copy() {
            State s = new State();
            s.now = now;
            s.town = town.clone();
            for (int i = 0; i < 3; i++) {
                s.rail[i] = rail[i].clone();
            }
            s.closed = closed.clone();
            s.snow = snow.clone();
            s.texts = texts.clone();
            for (Cheque c : cheques) {
                s.cheques.add(c.copy());
            }
            s.entries.addAll(entries);
            s.kept.putAll(kept);
            for (int i = 0; i < 6; i++) {
                s.alone[i] = alone[i].clone();
            }
            s.payments.addAll(payments);
            s.kiters = kiters;
            return s;
        }

        boolean business(int day) {
            return day % 7 != 6 && !closed[day];
        }

        int book(int house, int bank) {
            int sum = 0;
            for (int[] e : entries) {
                if (e[1] == house && e[2] == bank) {
                    sum += e[5];
                }
            }
            return sum;
        }

        int held(int house, int bank) {
            int sum = 0;
            for (Cheque c : cheques) {
                if (c.payee == house && c.at == bank && c.state != 3) {
                    for (int d = c.day; d < c.day + c.hold; d++) {
                        if (d == now) {
                            sum += c.amount;
                        }
                    }
                }
            }
            return sum;
        }

        int count(int house, int bank) {
            int n = 0;
            for (Cheque c : cheques) {
                if (c.payee == house && c.at == bank && c.day >= now - 6) {
                    n++;
                }
            }
            return n;
        }

        void enter(int house, int bank, int kind, int k, int by) {
            entries.add(new int[] {now, house, bank, kind, k, by, book(house, bank) + by});
        }

        int law(int bank, String word, int house, int amount, int other, int weekday, int most) {
            Map<String, Integer> facts = new HashMap<>();
            facts.put("amount", amount);
            facts.put("rail", rail[town[bank]][town[other]]);
            facts.put("far", town[bank] == town[other] ? 0 : 1);
            facts.put("house", house);
            facts.put("weekday", weekday);
            facts.put("book", book(house, bank));
            facts.put("count", count(house, bank));
            for (String line : texts[bank].split(";")) {
                if (!line.trim().startsWith(word)) {
                    continue;
                }
                int when = line.indexOf("when");
                if (when < 0 || new Formula(line.substring(when + 4), facts).condition()) {
                    int from = line.indexOf(word) + word.length();
                    String sum = when < 0 ? line.substring(from) : line.substring(from, when);
                    int value = new Formula(sum, facts).sum();
                    return value < 0 ? 0 : value > most ? most : value;
                }
            }
            return 0;
        }

        int morning(int order) {
            now++;
            int returned = 0;
            for (Cheque c : cheques) {
                if ((c.state == 0 || c.state == 2) && !snow[now]) {
                    c.trains = Math.max(0, c.trains - 1);
                }
            }
            if (business(now)) {
                for (Cheque c : cheques) {
                    if (c.state == 2 && c.trains == 0) {
                        c.state = 3;
                        enter(c.payee, c.at, 4, c.number, -c.amount);
                    }
                }
                for (int bank = 0; bank < 4; bank++) {
                    List<Cheque> asked = new ArrayList<>();
                    for (Cheque c : cheques) {
                        if (c.state == 0 && c.trains == 0 && c.on == bank) {
                            asked.add(c);
                        }
                    }
                    if (order == 1) {
                        asked.sort((a, b) -> b.amount - a.amount);
                    } else if (order == 2) {
                        asked.sort((a, b) -> a.amount - b.amount);
                    } else if (order == 3) {
                        asked.sort((a, b) -> a.drawer - b.drawer);
                    }
                    for (Cheque c : asked) {
                        returned += ask(c) ? 0 : 1;
                    }
                }
            }
            return returned;
        }

        boolean ask(Cheque c) {
            int limit = law(c.on, "limit", c.drawer, c.amount, c.at, now % 7, 999999);
            c.done = now;
            if (book(c.drawer, c.on) - held(c.drawer, c.on) + limit >= c.amount) {
                c.state = 1;
                enter(c.drawer, c.on, 2, c.number, -c.amount);
                return true;
            }
            int fee = law(c.on, "fee", c.drawer, c.amount, c.at, now % 7, 9999);
            c.state = 2;
            c.trains = rail[town[c.at]][town[c.on]];
            if (fee != 0) {
                enter(c.drawer, c.on, 3, c.number, -fee);
            }
            return false;
        }

        int real(int house) {
            int sum = 0;
            for (int bank = 0; bank < 4; bank++) {
                sum += book(house, bank);
            }
            for (Cheque c : cheques) {
                if ((c.state == 0 && c.drawer == house) || (c.state == 2 && c.payee == house)) {
                    sum -= c.amount;
                }
            }
            return sum;
        }

        int books(int house) {
            return book(house, 0) + book(house, 1) + book(house, 2) + book(house, 3);
        }

        int[] signs(int house, int banks) {
            int[] s = new int[8];
            for (Cheque c : cheques) {
                if (c.payee == house && (banks >> c.at & 1) == 1 && c.day >= now - 6) {
                    s[0] += c.amount;
                    s[1]++;
                    s[2] += c.amount / 100 * 100 == c.amount ? 1 : 0;
                    s[6] += town[c.at] != town[c.on] ? 1 : 0;
                    boolean match = false;
                    for (Cheque d : cheques) {
                        boolean near = d.amount >= c.amount - c.amount / 10
                                && d.amount <= c.amount + c.amount / 10;
                        match |= d.drawer == house && d.on == c.at && d.state == 1
                                && d.done >= now - 6 && near;
                    }
                    s[3] += match ? 1 : 0;
                }
            }
            for (int bank = 0; bank < 4; bank++) {
                s[4] += (banks >> bank & 1) * book(house, bank);
            }
            int low = Integer.MAX_VALUE;
            for (int d = Math.max(0, now - 6); d <= now; d++) {
                if (kept.containsKey(d)) {
                    int sum = 0;
                    for (int bank = 0; bank < 4; bank++) {
                        sum += (banks >> bank & 1) * kept.get(d)[house][2 + bank];
                    }
                    low = Math.min(low, sum);
                }
            }
            s[5] = low == Integer.MAX_VALUE ? s[4] : low;
            String[] names = {"turn", "count", "round", "match", "book", "low", "far"};
            Map<String, Integer> facts = new HashMap<>();
            for (int i = 0; i < 7; i++) {
                facts.put(names[i], s[i]);
            }
            for (String line : texts[4].split(";")) {
                if (!line.isBlank()) {
                    String condition = line.substring(line.indexOf("when") + 4);
                    s[7] |= new Formula(condition, facts).condition() ? 1 : 0;
                }
            }
            return s;
        }

        int flight(int at, int on, int day) {
            int trains = rail[town[at]][town[on]];
            int d = day;
            do {
                d++;
                trains -= snow[d] ? 0 : 1;
            } while (trains > 0 || !business(d));
            return d - day;
        }

        int inFlight() {
            int n = 0;
            for (Cheque c : cheques) {
                n += c.state % 2 == 0 ? 1 : 0;
            }
            return n;
        }

        int loss(int bank) {
            int loss = 0;
            for (int house = 0; house < 6; house++) {
                loss -= Math.min(0, book(house, bank));
            }
            return loss;
        }

        int lossOfAll() {
            return loss(0) + loss(1) + loss(2) + loss(3);
        }
    }

    /** Works off a text that is known to be without faults. */
    static final class Formula {
        final String s;
        final Map<String, Integer> facts;
        int i;

        Formula(String s, Map<String, Integer> facts) {
            this.s = s.replace(" ", "").replace("\n", "");
            this.facts = facts;
        }

        boolean eats(String t) {
            if (s.startsWith(t, i)) {
                i += t.length();
                return true;
            }
            return false;
        }

        boolean condition() {
            boolean v = conjunction();
            while (eats("or")) {
                boolean w = conjunction();
                v = v || w;
            }
            return v;
        }

        boolean conjunction() {
            boolean v = comparison();
            while (eats("and")) {
                boolean w = comparison();
                v = v && w;
            }
            return v;
        }

        boolean comparison() {
            if (eats("not")) {
                return !comparison();
            }
            if (eats("(")) {
                boolean v = condition();
                eats(")");
                return v;
            }
            int left = sum();
            char op = s.charAt(i++);
            int right = sum();
            return op == '<' ? left < right : op == '=' ? left == right : left > right;
        }

        int sum() {
            int v = product();
            while (i < s.length() && (s.charAt(i) == '+' || s.charAt(i) == '-')) {
                v = s.charAt(i++) == '+' ? v + product() : v - product();
            }
            return v;
        }

        int product() {
            int v = unit();
            while (i < s.length() && (s.charAt(i) == '*' || s.charAt(i) == '/')) {
                v = s.charAt(i++) == '*' ? v * unit() : v / unit();
            }
            return v;
        }

        int unit() {
            for (String name : facts.keySet()) {
                if (eats(name)) {
                    return facts.get(name);
                }
            }
            int v = 0;
            while (i < s.length() && Character.isDigit(s.charAt(i))) {
                v = v * 10 + s.charAt(i++) - '0';
            }
            return v;
        }
    }

    /** Looks for the first fault, sign by sign, by what may stand next. */
    static final class Checker {
        static final class Found extends RuntimeException {
            private static final long serialVersionUID = 1;
        }

        final String s;
        final boolean signs;
        final List<String> values;
        int i, fault, place = -1, lines;

        Checker(String s, boolean signs) {
            this.s = s;
            this.signs = signs;
            values = signs ? List.of("turn", "count", "round", "match", "book", "low", "far")
                    : List.of("amount", "far", "rail", "house", "weekday", "book", "count");
            try {
                run();
            } catch (Found f) {
                lines = -1;
            }
        }

        String peek() {
            while (i < s.length() && (s.charAt(i) == ' ' || s.charAt(i) == '\n')) {
                i++;
            }
            int j = i;
            while (j < s.length() && letter(s.charAt(j))) {
                j++;
            }
            if (j == i) {
                while (j < s.length() && s.charAt(j) >= '0' && s.charAt(j) <= '9') {
                    j++;
                }
            }
            if (j == i && j < s.length()) {
                j++;
            }
            return s.substring(i, j);
        }

        static boolean letter(char c) {
            return (c | 32) >= 'a' && (c | 32) <= 'z' && c < 128;
        }

        void found(int what) {
            fault = what;
            place = i;
            throw new Found();
        }

        void eat(String t) {
            if (!peek().equals(t)) {
                found(1);
            }
            i += t.length();
        }

        boolean maybe(String t) {
            if (!peek().equals(t)) {
                return false;
            }
            i += t.length();
            return true;
        }

        void run() {
            while (!peek().isEmpty()) {
                String word = peek();
                boolean known = signs ? word.equals("cry") : List.of("hold", "limit", "fee").contains(word);
                if (!known) {
                    found(1);
                }
                if (++lines == 13) {
                    found(3);
                }
                i += word.length();
                if (signs) {
                    eat("when");
                    condition(0);
                } else {
                    sum();
                    if (maybe("when")) {
                        condition(0);
                    }
                }
                eat(";");
            }
        }

        void condition(int open) {
            do {
                do {
                    one(open);
                } while (maybe("and"));
            } while (maybe("or"));
        }

        void one(int open) {
            String t = peek();
            if (t.equals("not") || t.equals("(")) {
                if (open == 8) {
                    found(3);
                }
                i += t.length();
                if (t.equals("not")) {
                    one(open + 1);
                } else {
                    condition(open + 1);
                    eat(")");
                }
                return;
            }
            sum();
            t = peek();
            if (!t.equals("<") && !t.equals("=") && !t.equals(">")) {
                found(1);
            }
            i++;
            sum();
        }

        void sum() {
            do {
                unit(false);
                while (peek().equals("*") || peek().equals("/")) {
                    boolean part = peek().equals("/");
                    i++;
                    unit(part);
                }
            } while (maybe("+") || maybe("-"));
        }

        void unit(boolean part) {
            String t = peek();
            boolean number = t.length() <= 5 && !t.isEmpty() && t.charAt(0) >= '0' && t.charAt(0) <= '9';
            if (number ? part && Integer.parseInt(t) == 0 : part || !values.contains(t)) {
                found(number ? 2 : 1);
            }
            i += t.length();
        }
    }

    State s = new State();
    State image;
    final List<Integer> tape = new ArrayList<>();
    int fault;
    int place = -1;

    static boolean in(int v, int least, int most) {
        return v >= least && v <= most;
    }

    boolean town(int bank, int town) {
        if (!in(bank, 0, 3) || !in(town, 0, 2) || !s.cheques.isEmpty()) {
            return false;
        }
        s.town[bank] = town;
        return true;
    }

    boolean rail(int a, int b, int days) {
        if (!in(a, 0, 2) || !in(b, 0, 2) || a == b || !in(days, 0, 5)) {
            return false;
        }
        s.rail[a][b] = s.rail[b][a] = days;
        return true;
    }

    boolean told(int what, int day, boolean is) {
        if (!in(what, 0, 1) || !in(day, s.now + 1, 89)) {
            return false;
        }
        (what == 0 ? s.closed : s.snow)[day] = is;
        return true;
    }

    int feed(int... five) {
        if (tape.size() > 380) {
            return -1;
        }
        for (int v : five) {
            for (int i = 3; i >= 0; i--) {
                tape.add(v >> 8 * i & 255);
            }
        }
        return tape.size();
    }

    boolean end(int n) {
        if (!in(n, 0, tape.size())) {
            return false;
        }
        while (tape.size() > n) {
            tape.remove(tape.size() - 1);
        }
        return true;
    }

    int text(int k) {
        StringBuilder b = new StringBuilder();
        for (int v : tape) {
            b.append((char) v);
        }
        tape.clear();
        fault = 0;
        place = -1;
        if (!in(k, 0, 4)) {
            return -1;
        }
        Checker c = new Checker(b.toString(), k == 4);
        fault = c.fault;
        place = c.place;
        if (c.fault == 0) {
            s.texts[k] = b.toString();
        }
        return c.lines;
    }

    int fault(int what) {
        return what == 0 ? fault : what == 1 ? place : -1;
    }

    boolean cash(int house, int bank, int v) {
        if (!in(house, 0, 5) || !in(bank, 0, 3) || v == 0 || !in(v, -999999, 999999)
                || !s.business(s.now)) {
            return false;
        }
        int usable = s.book(house, bank) - s.held(house, bank);
        if (v < 0 && usable + s.law(bank, "limit", house, -v, bank, s.now % 7, 999999) < -v) {
            return false;
        }
        s.enter(house, bank, 0, -1, v);
        return true;
    }

    int pay(int house, int on, int to, int at, int amount) {
        if (!in(house, 0, 5) || !in(to, 0, 5) || !in(on, 0, 3) || !in(at, 0, 3)
                || !in(amount, 1, 99999) || !s.business(s.now) || s.cheques.size() == 150) {
            return -1;
        }
        Cheque c = new Cheque();
        c.number = s.cheques.size();
        c.drawer = house;
        c.on = on;
        c.payee = to;
        c.at = at;
        c.amount = amount;
        c.day = s.now;
        c.trains = s.rail[s.town[on]][s.town[at]];
        c.hold = s.law(at, "hold", to, amount, on, s.now % 7, 20);
        s.cheques.add(c);
        s.enter(to, at, 1, c.number, amount);
        return c.number;
    }

    int day() {
        if (s.now == 89) {
            return -1;
        }
        int returned = s.morning(0);
        int[][] rows = new int[6][];
        for (int h = 0; h < 6; h++) {
            rows[h] = new int[] {s.books(h), s.real(h), s.book(h, 0), s.book(h, 1), s.book(h, 2), s.book(h, 3)};
        }
        s.kept.put(s.now, rows);
        for (int h = 0; h < 6; h++) {
            for (int b = 0; b < 4; b++) {
                if (s.alone[h][b] < 0 && s.signs(h, 1 << b)[7] == 1) {
                    s.alone[h][b] = s.now;
                }
            }
        }
        return returned;
    }

    int book(int house, int bank, int what) {
        if (!in(house, 0, 5) || !in(bank, 0, 3) || !in(what, 0, 3)) {
            return NO;
        }
        int book = s.book(house, bank);
        int held = s.held(house, bank);
        return new int[] {book, book - held, held, s.count(house, bank)}[what];
    }

    int cheque(int k, int what) {
        if (!in(k, 0, s.cheques.size() - 1) || !in(what, 0, 9)) {
            return -2;
        }
        Cheque c = s.cheques.get(k);
        return new int[] {c.drawer, c.on, c.payee, c.at, c.amount, c.day, c.state, c.trains, c.hold,
            c.done}[what];
    }

    int really(int house, int what) {
        if (!in(house, 0, 5) || !in(what, 0, 2)) {
            return NO;
        }
        int books = s.books(house);
        int real = s.real(house);
        return new int[] {books, real, books - real}[what];
    }

    int kept(int day, int house, int what) {
        boolean can = in(house, 0, 5) && in(what, 0, 5) && s.kept.containsKey(day);
        return can ? s.kept.get(day)[house][what] : NO;
    }

    int sums(int what) {
        int[] sums = new int[5];
        for (int h = 0; h < 6; h++) {
            sums[0] += s.books(h);
        }
        for (Cheque c : s.cheques) {
            sums[1] += c.state == 0 || c.state == 2 ? c.amount : 0;
        }
        for (int[] e : s.entries) {
            sums[2] += e[3] == 0 ? e[5] : 0;
            sums[3] -= e[3] == 3 ? e[5] : 0;
        }
        sums[4] = s.inFlight();
        if (sums[0] - sums[1] != sums[2] - sums[3]) {
            throw new IllegalStateException("all books less all in flight are cash less fees");
        }
        return in(what, 0, 4) ? sums[what] : -1;
    }

    boolean businessDay(int day) {
        return in(day, 0, 89) && s.business(day);
    }

    int flight(int at, int on, int day) {
        return in(at, 0, 3) && in(on, 0, 3) && businessDay(day) ? s.flight(at, on, day) : -1;
    }

    int holdsUp(int[] ring, int k, int amount, int day, int hold) {
        int sum = 0;
        for (int i = 0; i < k; i++) {
            int on = ring[i];
            int at = i == k - 1 ? ring[0] : ring[i + 1];
            int h = hold >= 0 ? hold : s.law(at, "hold", 0, amount, on, day % 7, 20);
            sum += amount * Math.max(0, s.flight(at, on, day) - h);
        }
        return sum;
    }

    int[] most(int[] ring, int n, int k, int amount, int day, int hold) {
        if (n == k) {
            int number = 0;
            for (int i = 0; i < k; i++) {
                number = number * 10 + ring[i];
            }
            return new int[] {holdsUp(ring, k, amount, day, hold), number};
        }
        int[] best = null;
        for (int bank = 0; bank < 4; bank++) {
            boolean met = false;
            for (int i = 0; i < n; i++) {
                met |= ring[i] == bank;
            }
            if (!met) {
                ring[n] = bank;
                int[] found = most(ring, n + 1, k, amount, day, hold);
                if (best == null || found[0] > best[0]) {
                    best = found;
                }
            }
        }
        return best;
    }

    int ring(int k, int amount, int day, int what) {
        if (!in(k, 2, 4) || !in(amount, 1, 9999) || !businessDay(day) || !in(what, 0, 1)) {
            return -1;
        }
        return most(new int[4], 0, k, amount, day, -1)[what];
    }

    int letIn(int k, int amount, int day, int hold) {
        if (!in(k, 2, 4) || !in(amount, 1, 9999) || !businessDay(day) || !in(hold, 0, 20)) {
            return -1;
        }
        return most(new int[4], 0, k, amount, day, hold)[0];
    }

    int leastHold(int k, int day, int kind) {
        if (!in(k, 2, 4) || !businessDay(day) || !in(kind, 0, 2)) {
            return -1;
        }
        int hold = 0;
        if (kind == 0) {
            while (most(new int[4], 0, k, 1, day, hold)[0] > 0) {
                hold++;
            }
            return hold;
        }
        for (int on = 0; on < 4; on++) {
            for (int at = 0; at < 4; at++) {
                if (on != at && (s.town[on] != s.town[at]) == (kind == 2)) {
                    while (s.flight(at, on, day) > hold) {
                        hold++;
                    }
                }
            }
        }
        return hold;
    }

    Cheque rests(Cheque c) {
        Cheque last = null;
        for (Cheque d : s.cheques) {
            if (d.number < c.number && d.payee == c.drawer && d.at == c.on && d.state != 3) {
                last = d;
            }
        }
        return last;
    }

    int chain(int k, int what) {
        if (!in(k, 0, s.cheques.size() - 1) || !in(what, 0, 3)) {
            return -2;
        }
        List<Cheque> all = new ArrayList<>();
        for (Cheque c = s.cheques.get(k); c != null; c = rests(c)) {
            all.add(c);
        }
        Cheque first = all.get(all.size() - 1);
        return new int[] {all.size() == 1 ? -1 : all.get(1).number, all.size(), first.number,
            all.get(0).day - first.day}[what];
    }

    int entry(int i, int what) {
        boolean can = in(i, 0, s.entries.size() - 1) && in(what, 0, 6);
        return can ? s.entries.get(i)[what] : NO;
    }

    int growth(int w, int c, int n) {
        if (!in(w, 0, 999999999) || !in(c, 0, 500) || !in(n, 0, 60)) {
            return -1;
        }
        java.math.BigInteger v = java.math.BigInteger.valueOf(w);
        for (int i = 0; i < n; i++) {
            v = v.add(v.multiply(java.math.BigInteger.valueOf(c)).divide(java.math.BigInteger.valueOf(1000)));
        }
        return v.min(java.math.BigInteger.valueOf(999999999)).intValue();
    }

    int sign(int house, int banks, int what) {
        if (!in(house, 0, 5) || !in(banks, 1, 15) || !in(what, 0, 7)) {
            return NO;
        }
        return s.signs(house, banks)[what];
    }

    boolean kiters(int set) {
        if (!in(set, 0, 63)) {
            return false;
        }
        s.kiters = set;
        return true;
    }

    int cries(int banks, int what) {
        if (!in(banks, 1, 15) || !in(what, 0, 4)) {
            return -1;
        }
        int set = 0, hits = 0, wrong = 0, missed = 0;
        for (int h = 0; h < 6; h++) {
            boolean cries = s.signs(h, banks)[7] == 1;
            boolean kiter = (s.kiters >> h & 1) == 1;
            set += cries ? 1 << h : 0;
            hits += cries && kiter ? 1 : 0;
            wrong += cries && !kiter ? 1 : 0;
            missed += !cries && kiter ? 1 : 0;
        }
        int sure = set == 0 ? -1 : 1000 * hits / (hits + wrong);
        return new int[] {set, hits, wrong, missed, sure}[what];
    }

    int like(int house, int banks, int what) {
        if (!in(house, 0, 5) || !in(banks, 1, 15) || !in(what, 0, 1)) {
            return -1;
        }
        int own = s.signs(house, banks)[0];
        int[] n = new int[2];
        for (int h = 0; h < 6; h++) {
            int[] signs = s.signs(h, banks);
            if (h != house && (s.kiters >> h & 1) == 0 && signs[0] >= own / 2 && signs[0] <= 2 * own) {
                n[0]++;
                n[1] += signs[7];
            }
        }
        return n[what];
    }

    int alone(int house, int bank) {
        return in(house, 0, 5) && in(bank, 0, 3) ? s.alone[house][bank] : -1;
    }

    int ending(int order, int what) {
        if (order == -1) {
            int best = 0;
            for (int o = 1; o < 4; o++) {
                if (ending(o, 2) < ending(best, 2)) {
                    best = o;
                }
            }
            return best;
        }
        if (!in(order, 0, 3) || !(in(what, 0, 2) || in(what, 10, 13))) {
            return -1;
        }
        State t = s.copy();
        int days = 0;
        int returned = 0;
        while (days < 40 && t.inFlight() > 0) {
            returned += t.morning(order);
            days++;
        }
        return what == 0 ? days : what == 1 ? returned : what == 2 ? t.lossOfAll() : t.loss(what - 10);
    }

    int snowed() {
        int without = ending(0, 2);
        for (int d = s.now + 1; d <= s.now + 14 && d <= 89; d++) {
            if (!s.snow[d]) {
                s.snow[d] = true;
                int with = ending(0, 2);
                s.snow[d] = false;
                if (with > without) {
                    return d;
                }
            }
        }
        return -1;
    }

    int payment(int amount, int town) {
        if (amount == 0) {
            s.payments.clear();
            return 0;
        }
        if (!in(amount, 1, 99999) || !in(town, 0, 2) || s.payments.size() == 6) {
            return -1;
        }
        s.payments.add(new int[] {amount, town});
        return s.payments.size();
    }

    int[] way(int i, int[] banks, int[] left, int sum, boolean most, int[] best) {
        if (i == s.payments.size()) {
            if (best == null || (most ? sum > best[6] : sum < best[6])) {
                best = Arrays.copyOf(banks, 7);
                best[6] = sum;
            }
            return best;
        }
        int[] p = s.payments.get(i);
        for (int bank = 0; bank < 4; bank++) {
            if (left[bank] >= p[0]) {
                left[bank] -= p[0];
                banks[i] = bank;
                best = way(i + 1, banks, left, sum + p[0] * s.rail[p[1]][s.town[bank]], most, best);
                left[bank] += p[0];
            }
        }
        return best;
    }

    int payFloat(int house, int what) {
        int n = s.payments.size();
        if (!in(house, 0, 5) || !(in(what, 0, 1) || in(what, 10, 9 + n) || in(what, 20, 19 + n))) {
            return -1;
        }
        int[] left = new int[4];
        for (int bank = 0; bank < 4; bank++) {
            left[bank] = s.book(house, bank) - s.held(house, bank);
        }
        int[] best = way(0, new int[6], left, 0, what == 0 || in(what, 10, 15), null);
        return best == null ? -1 : what < 2 ? best[6] : best[what % 10];
    }

    int room(int day, int what) {
        if (!in(day, 0, s.now) || !in(what, 0, 5)) {
            return NO;
        }
        int[] r = new int[6];
        for (Cheque c : s.cheques) {
            if (c.state == 1 && c.done == day) {
                r[c.at] += c.amount;
                r[c.on] -= c.amount;
                r[4] += c.amount;
            }
        }
        r[5] = r[4];
        int all = 0;
        for (int bank = 0; bank < 4; bank++) {
            all += Math.abs(r[bank]);
        }
        r[5] -= all / 2;
        return r[what];
    }

    int seen(int part) {
        for (int d = 0; in(part, 1, 1000) && d <= s.now; d++) {
            if (room(d, 4) > 0 && 1000L * room(d, 5) >= (long) part * room(d, 4)) {
                return d;
            }
        }
        return -1;
    }

    int burnt(int bank, int house, int amount, int what) {
        if (!in(bank, 0, 3) || !in(house, 0, 5) || !in(amount, 0, 99999) || !in(what, 0, 1)) {
            return NO;
        }
        int sum = 0;
        for (int[] e : s.entries) {
            if (e[1] == house && e[2] == bank) {
                Cheque c = e[4] < 0 ? null : s.cheques.get(e[4]);
                boolean proven = e[3] == 0 || e[3] == 2 || e[3] == 3
                        || (e[3] == 1 && c.state == 1 && c.on != bank);
                sum += proven ? e[5] : 0;
            }
        }
        for (int d = s.now - 6; what == 1 && d <= s.now; d++) {
            sum += d >= 0 && s.business(d) ? amount : 0;
        }
        return sum;
    }

    int honest(int h) {
        if (!in(h, 0, 20)) {
            return -1;
        }
        int sum = 0;
        for (Cheque c : s.cheques) {
            sum += (s.kiters >> c.payee & 1) == 0 ? c.amount * h / 1000 : 0;
        }
        return sum;
    }

    boolean image(boolean taken) {
        if (taken) {
            image = s.copy();
        } else if (image != null) {
            s = image.copy();
        }
        return image != null;
    }

    int look(int what) {
        return in(what, 0, 6) ? new int[] {s.now, s.cheques.size(), s.payments.size(), s.kiters,
            s.business(s.now) ? 1 : 0, image == null ? 0 : 1, s.entries.size()}[what] : -1;
    }
}
