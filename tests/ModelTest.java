import java.util.ArrayList;
import java.util.List;

/**
 * Long runs of calls, 512 on each object, against a model that is written from the document on lists and
 * copies, without a thought for its cost. The numbers come from a generator with a fixed start, so that
 * each run of this test is the same.
 */
public final class ModelTest {
    private static final int OBJECTS = 300;
    private static final int CALLS = 512;
    private static long state = 20261119L;

    private static int pick(int bound) {
        state = state * 6364136223846793005L + 1442695040888963407L;
        return (int) ((state >>> 33) % bound);
    }

    private static int from(int least, int most) {
        return most < least ? least : least + pick(most - least + 1);
    }

    /** Mostly a number of the range, sometimes one next to its ends or far off. */
    private static int near(int least, int most) {
        int[] odd = {least - 1, most + 1, least, most, Integer.MIN_VALUE, Integer.MAX_VALUE};
        return pick(25) == 0 ? odd[pick(odd.length)] : from(least, most);
    }

    private static final class Talker {
        int languages;
        int idioms;
        int place = -1;
        int fatigue;
        int words;
        int mistakes;
        int retold;
    }

    private static final class Cabin {
        int language;
        int lag;
        int memory;
        int source = -1;
        int sitter = -1;
        int second = -1;
        int lost;
        List<int[]> held = new ArrayList<>();
        List<int[]> spoken = new ArrayList<>();
    }

    private static final class Model {
        int language;
        int tick;
        List<Integer> text = new ArrayList<>();
        List<int[]> floor = new ArrayList<>();
        List<Talker> talkers = new ArrayList<>();
        List<Cabin> cabins = new ArrayList<>();

        Model copy() {
            Model m = new Model();
            m.language = language;
            m.tick = tick;
            m.text.addAll(text);
            m.floor.addAll(floor);
            for (Talker t : talkers) {
                Talker u = new Talker();
                u.languages = t.languages;
                u.idioms = t.idioms;
                u.place = t.place;
                u.fatigue = t.fatigue;
                u.words = t.words;
                m.talkers.add(u);
            }
            for (Cabin c : cabins) {
                Cabin e = new Cabin();
                e.language = c.language;
                e.lag = c.lag;
                e.memory = c.memory;
                e.source = c.source;
                e.sitter = c.sitter;
                e.second = c.second;
                e.lost = c.lost;
                e.held.addAll(c.held);
                e.spoken.addAll(c.spoken);
                m.cabins.add(e);
            }
            return m;
        }

        boolean isCabin(int b) {
            return b >= 0 && b < cabins.size();
        }

        boolean able(Cabin c) {
            if (c.sitter < 0) {
                return false;
            }
            int needed = c.source < 0 ? language : cabins.get(c.source).language;
            int has = talkers.get(c.sitter).languages;
            return (has & 1 << c.language) != 0 && (has & 1 << needed) != 0;
        }

        int setFloor(int l) {
            if (l < 0 || l > 7) {
                throw new IllegalArgumentException();
            }
            int before = language;
            language = l;
            return before;
        }

        int speak(int word, int step, int times, boolean pauses) {
            if (word < 0 || word > 99 || step < -99 || step > 99 || times < 1 || times > 40) {
                throw new IllegalArgumentException();
            }
            if (text.size() + times > 120) {
                throw new IllegalStateException();
            }
            int next = word;
            for (int i = 0; i < times; i++) {
                text.add(pauses ? -1 : next);
                next = ((next + step) % 100 + 100) % 100;
            }
            return text.size();
        }

        int addInterpreter(int languages, int idioms) {
            if (languages < 0 || languages > 255 || idioms < 0 || idioms > 1048575) {
                throw new IllegalArgumentException();
            }
            if (talkers.size() == 8) {
                throw new IllegalStateException();
            }
            Talker t = new Talker();
            t.languages = languages;
            t.idioms = idioms;
            talkers.add(t);
            return talkers.size() - 1;
        }

        int addBooth(int l, int lag, int memory) {
            if (l < 0 || l > 7 || lag < 1 || lag > 9 || memory < 1 || memory > 12) {
                throw new IllegalArgumentException();
            }
            if (cabins.size() == 6) {
                throw new IllegalStateException();
            }
            Cabin c = new Cabin();
            c.language = l;
            c.lag = lag;
            c.memory = memory;
            cabins.add(c);
            return cabins.size() - 1;
        }

        int tune(int b, int source) {
            if (!isCabin(b) || source != -1 && !isCabin(source)) {
                throw new IndexOutOfBoundsException();
            }
            for (int at = source; at >= 0; at = cabins.get(at).source) {
                if (at == b) {
                    throw new IllegalArgumentException();
                }
            }
            int before = cabins.get(b).source;
            cabins.get(b).source = source;
            return before;
        }

        int sit(int b, int i) {
            if (!isCabin(b) || i < -1 || i >= talkers.size()) {
                throw new IndexOutOfBoundsException();
            }
            int before = cabins.get(b).sitter;
            for (Cabin c : cabins) {
                if (c.sitter == i) {
                    c.sitter = -1;
                }
            }
            cabins.get(b).sitter = i;
            place();
            return before;
        }

        void place() {
            for (Talker t : talkers) {
                t.place = -1;
            }
            for (int b = 0; b < cabins.size(); b++) {
                if (cabins.get(b).sitter >= 0) {
                    talkers.get(cabins.get(b).sitter).place = b;
                }
            }
        }

        int swap(int a, int b) {
            if (!isCabin(a) || !isCabin(b)) {
                throw new IndexOutOfBoundsException();
            }
            if (a == b) {
                throw new IllegalArgumentException();
            }
            int other = cabins.get(a).sitter;
            cabins.get(a).sitter = cabins.get(b).sitter;
            cabins.get(b).sitter = other;
            place();
            return (able(cabins.get(a)) ? 1 : 0) + (able(cabins.get(b)) ? 1 : 0);
        }

        int common(Cabin c) {
            int[][] table = new int[floor.size() + 1][c.spoken.size() + 1];
            for (int i = 1; i <= floor.size(); i++) {
                for (int k = 1; k <= c.spoken.size(); k++) {
                    table[i][k] = floor.get(i - 1)[0] == c.spoken.get(k - 1)[0] ? table[i - 1][k - 1] + 1
                        : Math.max(table[i - 1][k], table[i][k - 1]);
                }
            }
            return table[floor.size()][c.spoken.size()];
        }

        int booth(int b, int what) {
            if (!isCabin(b) || what < 0 || what > 11) {
                throw new IndexOutOfBoundsException();
            }
            Cabin c = cabins.get(b);
            int chain = 0;
            for (int at = b; at >= 0; at = cabins.get(at).source) {
                chain++;
            }
            return new int[] {c.language, c.lag, c.memory, c.source, c.sitter, c.held.size(), c.spoken.size(), c.lost,
                chain, c.second >= 0 ? 1 : 0, able(c) ? 1 : 0, what == 11 ? common(c) : 0}[what];
        }

        int interpreter(int i, int what) {
            if (i < 0 || i >= talkers.size() || what < 0 || what > 6) {
                throw new IndexOutOfBoundsException();
            }
            Talker t = talkers.get(i);
            return new int[] {t.languages, t.idioms, t.place, t.fatigue, t.words, t.mistakes, t.retold}[what];
        }

        int pass(int ticks, int most) {
            if (ticks < 1 || ticks > most) {
                throw new IllegalArgumentException();
            }
            if (tick + ticks > 400) {
                throw new IllegalStateException();
            }
            int all = 0;
            for (int i = 0; i < ticks; i++) {
                all += oneTick();
            }
            return all;
        }

        int oneTick() {
            int floorSays = text.isEmpty() ? -1 : text.remove(0);
            if (floorSays >= 0) {
                floor.add(new int[] {floorSays, tick});
            }
            int[] says = new int[cabins.size()];
            int all = 0;
            for (int b = 0; b < says.length; b++) {
                says[b] = oneCabin(cabins.get(b));
                all += says[b] >= 0 ? 1 : 0;
            }
            for (Cabin c : cabins) {
                int heard = c.source < 0 ? floorSays : says[c.source];
                if (heard >= 0 && c.held.size() == c.memory) {
                    c.lost++;
                } else if (heard >= 0) {
                    c.held.add(new int[] {heard, tick});
                }
            }
            for (Talker t : talkers) {
                if (t.place < 0) {
                    t.fatigue = Math.max(0, t.fatigue - 2);
                }
            }
            tick++;
            return all;
        }

        int oneCabin(Cabin c) {
            Talker t = c.sitter < 0 ? null : talkers.get(c.sitter);
            int says = -1;
            if (c.second >= 0) {
                if (able(c)) {
                    says = c.second;
                } else {
                    c.lost++;
                }
                c.second = -1;
            } else if (!c.held.isEmpty() && tick - c.held.get(0)[1] >= c.lag) {
                int word = c.held.remove(0)[0];
                if (!able(c)) {
                    c.lost++;
                } else if (word >= 80 && (t.idioms & 1 << word - 80) == 0) {
                    says = (word - 80) * 4;
                    c.second = says + 1;
                    t.retold++;
                } else {
                    says = word;
                }
            }
            if (says < 0) {
                if (t != null && t.fatigue > 0) {
                    t.fatigue--;
                }
                return -1;
            }
            if (t.fatigue >= 20 && t.words % 3 == 0 && says < 80) {
                says = (says + 1) % 80;
                t.mistakes++;
            }
            t.words++;
            t.fatigue++;
            c.spoken.add(new int[] {says, tick});
            return says;
        }

        int said(int source, int index, boolean isTick) {
            if (source != -1 && !isCabin(source)) {
                throw new IndexOutOfBoundsException();
            }
            List<int[]> row = source < 0 ? floor : cabins.get(source).spoken;
            if (index < 0 || index >= row.size()) {
                throw new IndexOutOfBoundsException();
            }
            return row.get(index)[isTick ? 1 : 0];
        }

        int count(int what) {
            if (what < 0 || what > 9) {
                throw new IndexOutOfBoundsException();
            }
            int said = 0;
            int lost = 0;
            int held = 0;
            int able = 0;
            for (Cabin c : cabins) {
                said += c.spoken.size();
                lost += c.lost;
                held += c.held.size();
                able += able(c) ? 1 : 0;
            }
            return new int[] {tick, language, text.size(), floor.size(), cabins.size(), talkers.size(), said, lost,
                held, able}[what];
        }

        int foresee(int b, int ticks, int what) {
            if (!isCabin(b) || what < 0 || what > 2) {
                throw new IndexOutOfBoundsException();
            }
            Model m = copy();
            m.pass(ticks, 100);
            return m.booth(b, new int[] {11, 7, 6}[what]);
        }

        int advise(int b, int ticks) {
            if (!isCabin(b)) {
                throw new IndexOutOfBoundsException();
            }
            copy().pass(ticks, 40);
            int best = -1;
            int most = -1;
            for (int i = 0; i < talkers.size(); i++) {
                if (talkers.get(i).place == -1 || talkers.get(i).place == b) {
                    Model m = copy();
                    m.sit(b, i);
                    m.pass(ticks, 40);
                    if (m.booth(b, 11) > most) {
                        most = m.booth(b, 11);
                        best = i;
                    }
                }
            }
            return best;
        }

        double through() {
            double sum = 0;
            for (Cabin c : cabins) {
                sum += common(c);
            }
            int parts = cabins.size() * floor.size();
            return parts == 0 ? 0.0 : sum / parts;
        }

        long digest() {
            List<Integer> numbers = new ArrayList<>();
            for (int what = 0; what < 10; what++) {
                numbers.add(count(what));
            }
            for (int i = 0; i < talkers.size(); i++) {
                for (int what = 0; what < 7; what++) {
                    numbers.add(interpreter(i, what));
                }
            }
            for (int b = 0; b < cabins.size(); b++) {
                for (int what = 0; what < 12; what++) {
                    numbers.add(booth(b, what));
                }
            }
            for (int source = -1; source < cabins.size(); source++) {
                for (int[] one : source < 0 ? floor : cabins.get(source).spoken) {
                    numbers.add(one[0]);
                    numbers.add(one[1]);
                }
            }
            long d = 523;
            for (int x : numbers) {
                d = d * 31 + x;
            }
            return d;
        }
    }

    /** One call with its numbers, to be made of the object and of the model. */
    private static final class Call {
        String name;
        int a;
        int b;
        int c;

        String text() {
            return name + "(" + a + ", " + b + ", " + c + ")";
        }

        long ofObject(RelayBooths x) {
            switch (name) {
                case "setFloor": return x.setFloor(a);
                case "speak": return x.speak(a, b, c);
                case "rest": return x.rest(a);
                case "addInterpreter": return x.addInterpreter(a, b);
                case "addBooth": return x.addBooth(a, b, c);
                case "tune": return x.tune(a, b);
                case "sit": return x.sit(a, b);
                case "swap": return x.swap(a, b);
                case "booth": return x.booth(a, b);
                case "interpreter": return x.interpreter(a, b);
                case "pass": return x.pass(a);
                case "said": return x.said(a, b, c == 1);
                case "count": return x.count(a);
                case "foresee": return x.foresee(a, b, c);
                case "advise": return x.advise(a, b);
                case "through": return Double.doubleToLongBits(x.through());
                default: return x.digest();
            }
        }

        long ofModel(Model m) {
            switch (name) {
                case "setFloor": return m.setFloor(a);
                case "speak": return m.speak(a, b, c, false);
                case "rest": return m.speak(0, 0, a, true);
                case "addInterpreter": return m.addInterpreter(a, b);
                case "addBooth": return m.addBooth(a, b, c);
                case "tune": return m.tune(a, b);
                case "sit": return m.sit(a, b);
                case "swap": return m.swap(a, b);
                case "booth": return m.booth(a, b);
                case "interpreter": return m.interpreter(a, b);
                case "pass": return m.pass(a, 100);
                case "said": return m.said(a, b, c == 1);
                case "count": return m.count(a);
                case "foresee": return m.foresee(a, b, c);
                case "advise": return m.advise(a, b);
                case "through": return Double.doubleToLongBits(m.through());
                default: return m.digest();
            }
        }
    }

    private static Call call(String name, int a, int b, int c) {
        Call call = new Call();
        call.name = name;
        call.a = a;
        call.b = b;
        call.c = c;
        return call;
    }

    private static int languages() {
        return pick(4) == 0 ? near(0, 255) : near(0, 255) | 3;
    }

    private static Call anyCall(Model m, int longest) {
        int booths = m.cabins.size();
        int people = m.talkers.size();
        switch (pick(24)) {
            case 0: return call("setFloor", pick(3) == 0 ? near(0, 7) : pick(2), 0, 0);
            case 1:
            case 2:
            case 3: return call("speak", pick(3) == 0 ? near(75, 99) : near(0, 99), near(-99, 99), near(1, 40));
            case 4: return call("speak", near(0, 99), near(-1, 1), near(1, 40));
            case 5: return call("rest", pick(2) == 0 ? from(1, 3) : near(1, 40), 0, 0);
            case 6: return call("addInterpreter", languages(), pick(3) == 0 ? near(0, 1048575) : near(0, 1), 0);
            case 7: return call("addBooth", pick(4) == 0 ? near(0, 7) : pick(2), pick(3) == 0 ? near(1, 9) : 1,
                near(1, 12));
            case 8: return call("tune", near(0, booths - 1), near(-1, booths - 1), 0);
            case 9:
            case 10: return call("sit", near(0, booths - 1), near(pick(4) == 0 ? -1 : 0, people - 1), 0);
            case 11: return call("swap", near(0, booths - 1), near(0, booths - 1), 0);
            case 12: return call("booth", near(0, booths - 1), near(0, 11), 0);
            case 13: return call("interpreter", near(0, people - 1), near(0, 6), 0);
            case 14:
            case 15:
            case 16:
            case 17: return call("pass", pick(20) == 0 ? near(1, 100) : from(1, longest), 0, 0);
            case 18: return call("said", near(-1, booths - 1), near(0, m.floor.size() - 1), pick(2));
            case 19: return call("count", near(0, 9), 0, 0);
            case 20: return call("foresee", near(0, booths - 1), near(1, 100), near(0, 2));
            case 21: return call("advise", near(0, booths - 1), near(1, 40), 0);
            case 22: return call("through", 0, 0, 0);
            default: return call("digest", 0, 0, 0);
        }
    }

    private static String answer(RelayBooths x, Call call) {
        try {
            return Long.toString(call.ofObject(x));
        } catch (RuntimeException e) {
            return "throws " + e.getClass().getSimpleName();
        }
    }

    private static String answer(Model m, Call call) {
        try {
            return Long.toString(call.ofModel(m));
        } catch (RuntimeException e) {
            return "throws " + e.getClass().getSimpleName();
        }
    }

    /** Makes all calls of one object; returns how many answers were wrong. */
    private static int run(int number) {
        RelayBooths x = new RelayBooths();
        Model m = new Model();
        int longest = new int[] {2, 5, 10, 25}[pick(4)];
        StringBuilder calls = new StringBuilder();
        for (int i = 0; i < CALLS; i++) {
            Call call = anyCall(m, longest);
            calls.append(call.text()).append(' ');
            String got = answer(x, call);
            String want = answer(m, call);
            if (got.equals(want) && (i == CALLS - 1 || i % 16 == 0)) {
                got = Long.toString(x.digest());
                want = Long.toString(m.digest());
            }
            if (!got.equals(want)) {
                System.out.println("run " + number + ", call " + i + ": got " + got + ", due is " + want);
                System.out.println(calls);
                return 1;
            }
        }
        return 0;
    }

    public static void main(String[] args) {
        int wrong = 0;
        for (int number = 0; number < OBJECTS; number++) {
            wrong += run(number);
        }
        System.out.println("ModelTest: " + OBJECTS + " runs of " + CALLS + " calls, " + wrong + " wrong");
        if (wrong != 0) {
            System.exit(1);
        }
    }
}
