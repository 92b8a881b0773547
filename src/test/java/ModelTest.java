import java.util.ArrayList;
import java.util.List;
import java.util.Random;

/** Holds the class against Model in families, TEXTS and SHEETS of a fixed row of random numbers. */
public final class ModelTest {
    private static final Check CHECK = new Check();
    private static final int FAMILIES = 60;
    private static final int TEXTS = 20_000;

    // What it takes to make a family anew leaves room for questions.
    private static final int MOST_BYTES = 300;

    private final Random random;
    private final Model model = new Model();
    private final List<String> texts = new ArrayList<>();
    private Counted object = new Counted();

    private ModelTest(long seed) {
        random = new Random(seed);
    }

    public static void main(String[] args) {
        for (int i = 0; i < FAMILIES; i++) {
            new ModelTest(i).family();
        }
        readTexts();
        CHECK.close();
    }

    // ---- texts

    private static void readTexts() {
        Random random = new Random(2);
        int stood = 0;
        for (int i = 0; i < TEXTS; i++) {
            String text = spoiled(random, text(random));
            int want = new TextReader(text).read().fault;
            stood += want == Model.NONE ? 1 : 0;
            CHECK.due("text of " + text, Check.text(new Counted(), text), want < 0 ? 1 : -100 - want);
        }
        CHECK.isSo("some TEXTS stood, some did not", stood > TEXTS / 5 && stood < TEXTS * 4 / 5);
    }

    /** A TEXT of at most 160 bytes. */
    private static String text(Random random) {
        for (int i = 0; i < 1000; i++) {
            int depth = random.nextInt(4);
            String text = "says " + e(random, depth) + ";meant " + e(random, depth) + " ;\nworth " + e(random, depth) + ";";
            if (text.length() <= 160) {
                return text;
            }
        }
        return "says n;meant n;worth n;";
    }

    private static String spoiled(Random random, String text) {
        int change = random.nextInt(4);
        int at = random.nextInt(text.length());
        String token = random.nextBoolean() ? token(random) : String.valueOf((char) random.nextInt(256));
        String changed = text;
        if (change == 0) {
            changed = text.substring(0, at) + text.substring(at + 1);
        } else if (change == 1) {
            changed = text.substring(0, at) + token + text.substring(at);
        } else if (change == 2) {
            changed = text.substring(0, at);
        }
        return changed.length() <= 160 ? changed : text;
    }

    private static String token(Random random) {
        String[] tokens = {"n", " own ", " more ", " many", " heir ", " day ", " says ", " meant ", " worth ", " or ",
            " and ", " not ", "(", ")", ";", "+", "-", "*", "<", "=", "7", "9999", "10000", " ", "\n", "((((", "----",
            " not not not "};
        return tokens[random.nextInt(tokens.length)];
    }

    private static String e(Random random, int depth) {
        String[] names = {"n", "own", "more", "many", "heir", "day"};
        if (depth == 0 || random.nextInt(5) == 0) {
            return random.nextInt(3) == 0 ? String.valueOf(random.nextInt(random.nextBoolean() ? 12 : 3000))
                : names[random.nextInt(names.length)];
        }
        String a = e(random, depth - 1);
        String b = e(random, depth - 1);
        switch (random.nextInt(12)) {
            case 0:
                return a + " or " + b;
            case 1:
                return a + " and " + b;
            case 2:
                return "not " + a;
            case 3:
                return a + "<" + b;
            case 4:
                return a + "=" + b;
            case 5:
                return a + " - " + b;
            case 6:
                return a + "*" + b;
            case 7:
                return "-" + a;
            case 8:
            case 9:
                return "(" + a + ")";
            default:
                return a + "+" + b;
        }
    }

    // ---- families

    private void family() {
        addTexts();
        int size = random.nextInt(7);
        for (int i = 0; i < size; i++) {
            addHeir();
        }
        for (int round = 0; round < 3; round++) {
            askEach();
            askPairs();
            askAll();
            change();
        }
    }

    /** An object with the model's family that can still take so many calls. */
    private Counted with(int calls) {
        if (object.left() < calls) {
            object = new Counted();
            for (int i = 0; i < texts.size(); i++) {
                CHECK.due("text of " + texts.get(i), Check.text(object, texts.get(i)), i + 1);
            }
            for (Model.Person person : model.people) {
                CHECK.due("heir", object.heir(person.kind, person.more), person.number);
                CHECK.due("set", object.set(2, person.number, bits(person)), 0);
            }
            CHECK.due("set DAY", object.set(0, 0, model.day), 0);
            CHECK.due("force", object.force(model.rule), 0);
        }
        return object;
    }

    private Counted x() {
        return with(1);
    }

    private void addTexts() {
        int bytes = 0;
        for (int i = 0; i < random.nextInt(6); i++) {
            String text = text(random);
            Model.Text read = new TextReader(text).read();
            bytes += text.length();
            if (read.fault == Model.NONE && bytes <= MOST_BYTES) {
                CHECK.due("text of " + text, Check.text(object, text), texts.size() + 1);
                texts.add(text);
                model.texts.add(read);
            }
        }
        change();
    }

    private void addHeir() {
        Model.Person person = new Model.Person();
        person.number = model.people.size();
        person.kind = random.nextInt(6);
        person.more = random.nextInt(10);
        int shape = random.nextInt(3);
        for (int n = 1; n <= 30; n++) {
            person.own[n] = random.nextInt(shape == 0 ? 12 : shape == 1 ? 5 : 3) == 0 && (shape < 2 || n % 3 == 0);
        }
        Counted x = with(2);
        CHECK.due("heir", x.heir(person.kind, person.more), person.number);
        CHECK.due("set", x.set(2, person.number, bits(person)), 0);
        model.people.add(person);
    }

    private static int bits(Model.Person person) {
        int bits = 0;
        for (int n = 1; n <= 30; n++) {
            bits |= person.own[n] ? 1 << n - 1 : 0;
        }
        return bits;
    }

    private void change() {
        Counted x = with(3);
        int day = random.nextInt(100);
        CHECK.due("set DAY", x.set(0, 0, day), model.day);
        model.day = day;
        int text = random.nextInt(model.texts.size());
        CHECK.due("force", x.force(text), model.rule);
        model.rule = text;
        if (model.people.size() < 2) {
            return;
        }
        Model.Person a = model.people.get(0);
        Model.Person b = model.people.get(1);
        for (int n = 1; n <= 30; n++) {
            if (a.own[n] && !b.own[n]) {
                a.own[n] = false;
                b.own[n] = true;
                CHECK.due("give", x.give(0, 1, n), a.many());
                return;
            }
        }
    }

    private void askEach() {
        for (Model.Person a : model.people) {
            CHECK.due("own", x().told(a.number, 2), bits(a));
            CHECK.due("many", x().told(a.number, 4), a.many());
            int sayable = 0;
            for (int n = 1; n <= 30; n++) {
                sayable |= a.can(n) ? 1 << n - 1 : 0;
                CHECK.due("says", x().says(a.number, n, 0), a.can(n) ? 1 : 0);
                CHECK.due("costs", x().says(a.number, n, 1), model.costs(a, n, model.rule));
            }
            CHECK.due("sayable", x().told(a.number, 5), sayable);
            for (int sum = 0; sum < 100; sum++) {
                CHECK.due("meant", x().says(a.number, sum, 2), model.meant(a, sum) ? 1 : 0);
                CHECK.due("worth", x().says(a.number, sum, 3), model.worth(a, sum));
            }
        }
    }

    private void askPairs() {
        if (model.people.size() < 2) {
            return;
        }
        for (int i = 0; i < 3; i++) {
            int a = random.nextInt(model.people.size());
            int b = (a + 1 + random.nextInt(model.people.size() - 1)) % model.people.size();
            askTwo(model.people.get(a), model.people.get(b));
        }
    }

    private void askTwo(Model.Person a, Model.Person b) {
        int common = 0;
        for (int n : model.common(a, b)) {
            common |= 1 << n - 1;
        }
        CHECK.due("common", x().common(a.number, b.number), common);
        long[] pays = model.pays(a, b, model.rule);
        long[] fewest = model.fewest(a, b);
        for (int sum = 0; sum < 100; sum++) {
            CHECK.due("pays", x().pays(a.number, b.number, sum, 0), pays[sum]);
            CHECK.due("fewest", x().pays(a.number, b.number, sum, 1), fewest[sum]);
        }
        for (int i = 0; i < 8; i++) {
            int sum = i == 0 ? 0 : random.nextInt(100);
            long[] through = model.through(a.number, b.number, sum, Model.NONE);
            CHECK.due("through", x().pays(a.number, b.number, sum, 2), through[0]);
            CHECK.due("steps", x().pays(a.number, b.number, sum, 3), through[1]);
        }
        long[] barred = model.barred(a, b);
        for (int what = 0; what < 3; what++) {
            CHECK.due("barred", x().barred(a.number, b.number, what), barred[what]);
        }
        long[] buy = model.buy(a, b);
        long[] pawn = model.pawn(a, b);
        for (int what = 0; what < 2; what++) {
            CHECK.due("buy", x().buy(a.number, b.number, what), buy[what]);
            CHECK.due("pawn", x().pawn(a.number, b.number, what), pawn[what]);
        }
        askRows(a, b, pays);
    }

    private void askRows(Model.Person a, Model.Person b, long[] pays) {
        int[] rows = new int[2 * random.nextInt(random.nextBoolean() ? 4 : 21)];
        for (int i = 0; i < rows.length; i += 2) {
            rows[i] = random.nextInt(100);
            rows[i + 1] = (int) pays[rows[i]] + (random.nextInt(25) == 0 ? 1 : 0);
        }
        Counted x = with(Check.CALLS_OF_A_SHEET + 6);
        Check.sheet(x, 0, 2, rows);
        for (int what = 0; what < 6; what++) {
            CHECK.due("rows " + what, x.rows(0, a.number, b.number, what), model.rows(rows, a, b, what));
        }
        x = with(7);
        int from = random.nextInt(100);
        int n = random.nextInt(21);
        int many = Math.min(n, 100 - from);
        CHECK.due("film", x.film(1, 10 * a.number + b.number, from, n), many);
        List<Integer> film = new ArrayList<>();
        for (int i = 0; i < many; i++) {
            film.add(from + i);
            film.add((int) (short) pays[from + i]);
        }
        int[] filmed = film.stream().mapToInt(Integer::intValue).toArray();
        for (int what = 0; what < 6; what++) {
            CHECK.due("film's rows " + what, x.rows(1, a.number, b.number, what), model.rows(filmed, a, b, what));
        }
    }

    private void askAll() {
        long[] silent = model.silent();
        for (int what = 0; what < 2; what++) {
            CHECK.due("silent", x().silent(what), silent[what]);
        }
        for (int i = 0; i < 3; i++) {
            int sum = 1 + random.nextInt(99);
            long[] middle = model.middle(sum);
            CHECK.due("middle", x().middle(sum, 0), middle[0]);
            CHECK.due("middle's pairs", x().middle(sum, 1), middle[1]);
        }
        for (int heir = 0; heir < model.people.size(); heir++) {
            long[] leave = model.leave(heir);
            CHECK.due("leave", x().leave(heir, 0), leave[0]);
            CHECK.due("leave's worth", x().leave(heir, 1), leave[1]);
        }
        if (model.people.size() >= 2) {
            askChance();
        }
    }

    private void askChance() {
        int seed = random.nextInt();
        int n = 1 + random.nextInt(20);
        int now = model.payable(model.people.get(0), model.people.get(1));
        int above = 0;
        for (int i = 0; i < n; i++) {
            int drawn = model.drawn(seed + i);
            CHECK.due("drawn", x().drawn(seed + i), drawn);
            above += drawn > now ? 1 : 0;
        }
        int measure = n;
        while (above % measure != 0 || n % measure != 0) {
            measure--;
        }
        CHECK.due("chance", x().chance(seed, n, 0), above / measure);
        CHECK.due("chance's other part", x().chance(seed, n, 1), n / measure);
    }
}
