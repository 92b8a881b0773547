import java.util.ArrayList;
import java.util.List;
import java.util.function.ToIntFunction;

/**
 * The document once more, by its definitions and without a thought for speed, to hold the class against.
 * It knows no refusals: it is asked only what has an answer.
 */
final class Model {
    static final int NONE = -1;

    static final class Person {
        int number;
        int kind;
        int more;
        boolean[] own = new boolean[31];

        Person with(int n, boolean isOwn) {
            Person other = copy();
            other.own[n] = isOwn;
            return other;
        }

        Person copy() {
            Person other = new Person();
            other.number = number;
            other.kind = kind;
            other.more = more;
            other.own = own.clone();
            return other;
        }

        int many() {
            int many = 0;
            for (boolean isOwn : own) {
                many += isOwn ? 1 : 0;
            }
            return many;
        }

        boolean can(int n) {
            return can(kind, n);
        }

        private boolean can(int as, int n) {
            switch (as) {
                case 1:
                    return can(0, n) || isMade(n);
                case 2:
                    return can(0, n) || 2 * n <= 30 && own[2 * n];
                case 3:
                    return can(1, n) || isRest(n);
                case 4:
                    return can(2, n) || n == more;
                case 5:
                    return can(0, n) || n > 20 + more;
                default:
                    return own[n];
            }
        }

        private boolean isMade(int n) {
            for (int i = 1; i < n; i++) {
                if (own[i] && own[n - i]) {
                    return true;
                }
            }
            return false;
        }

        private boolean isRest(int n) {
            for (int i = 1; i + n <= 30; i++) {
                if (own[i] && own[i + n]) {
                    return true;
                }
            }
            return false;
        }

        private int price(int as, int v) {
            switch (as) {
                case 1:
                    return price(0, v) + 1;
                case 2:
                    return price(0, v) + more;
                case 3:
                    return price(1, v) / 2;
                case 4:
                    return price(2, v);
                case 5:
                    return 2 * price(0, v);
                default:
                    return v;
            }
        }
    }

    /** What a TEXT's E is asked with: n, own, more, many, heir, day. */
    record Asked(int n, int own, int more, int many, int heir, int day) { }

    /** A TEXT as functions of what is asked; or the place of its FAULT. */
    static final class Text {
        List<ToIntFunction<Asked>> parts = new ArrayList<>();
        int fault = NONE;
    }

    final List<Person> people = new ArrayList<>();
    final List<Text> texts = new ArrayList<>();
    int rule;
    int day;

    Model() {
        texts.add(new TextReader("says 1 ; meant 1 ; worth n ;").read());
    }

    private int value(int text, int part, Person one, int n, int own) {
        return texts.get(text).parts.get(part)
            .applyAsInt(new Asked(n, own, one.more, one.many(), one.number, day));
    }

    private static int bound(int v) {
        return v < 0 ? 0 : v > 99 ? 99 : v;
    }

    int costs(Person one, int n, int text) {
        int c = one.price(one.kind, bound(value(text, 0, one, n, one.own[n] ? 1 : 0)));
        return c < 1 ? 1 : c;
    }

    boolean meant(Person one, int sum) {
        return value(rule, 1, one, sum, 0) != 0;
    }

    int worth(Person one, int sum) {
        return bound(value(rule, 2, one, sum, 0));
    }

    List<Integer> common(Person a, Person b) {
        List<Integer> list = new ArrayList<>();
        for (int n = 1; n <= 30; n++) {
            if (a.can(n) && b.can(n)) {
                list.add(n);
            }
        }
        return list;
    }

    /** For each SUM the least that PARTS cost, each by its own price, found from the PART that comes last. */
    private long[] least(List<Integer> parts, ToIntFunction<Integer> price) {
        long far = Long.MAX_VALUE / 4;
        long[] least = new long[100];
        for (int sum = 1; sum < 100; sum++) {
            least[sum] = far;
        }
        // As often as nothing changes any more, from above so that no order helps.
        boolean changed = true;
        while (changed) {
            changed = false;
            for (int part : parts) {
                for (int sum = 99; sum >= part; sum--) {
                    long c = least[sum - part] + price.applyAsInt(part);
                    if (c < least[sum]) {
                        least[sum] = c;
                        changed = true;
                    }
                }
            }
        }
        for (int sum = 1; sum < 100; sum++) {
            least[sum] = least[sum] >= far ? NONE : least[sum];
        }
        return least;
    }

    long[] pays(Person a, Person b, int text) {
        return least(common(a, b), n -> costs(a, n, text) + costs(b, n, text));
    }

    long[] fewest(Person a, Person b) {
        return least(common(a, b), n -> 1);
    }

    boolean canPay(Person a, Person b, int sum) {
        return fewest(a, b)[sum] != NONE;
    }

    /** COSTS and STEPS by trying every way that comes to nobody twice. */
    long[] through(int a, int b, int sum, int shunned) {
        long[] best = {NONE, NONE};
        boolean[] seen = new boolean[people.size()];
        if (shunned >= 0) {
            seen[shunned] = true;
        }
        long[][] toll = new long[people.size()][people.size()];
        for (int i = 0; i < people.size(); i++) {
            for (int j = 0; j < people.size(); j++) {
                toll[i][j] = i == j ? NONE : pays(people.get(i), people.get(j), rule)[sum];
            }
        }
        walk(toll, a, b, seen, 0, 0, best);
        return best;
    }

    private void walk(long[][] toll, int at, int b, boolean[] seen, long cost, long steps, long[] best) {
        if (at == b) {
            if (best[0] == NONE || cost < best[0] || cost == best[0] && steps < best[1]) {
                best[0] = cost;
                best[1] = steps;
            }
            return;
        }
        seen[at] = true;
        for (int next = 0; next < people.size(); next++) {
            if (!seen[next] && toll[at][next] != NONE) {
                walk(toll, next, b, seen, cost + toll[at][next], steps + 1, best);
            }
        }
        seen[at] = false;
    }

    /** How many are BARRED, the first, WORTH. */
    long[] barred(Person a, Person b) {
        long[] all = {0, NONE, 0};
        long[] fewest = fewest(a, b);
        for (int sum = 99; sum >= 1; sum--) {
            if (meant(a, sum) && fewest[sum] == NONE) {
                all[0]++;
                all[1] = sum;
                all[2] += worth(a, sum);
            }
        }
        return all;
    }

    long[] silent() {
        long[] all = {0, NONE};
        for (int sum = 99; sum >= 1; sum--) {
            boolean isSilent = true;
            for (Person a : people) {
                for (Person b : people) {
                    isSilent &= a == b || !canPay(a, b, sum);
                }
            }
            if (isSilent) {
                all[0]++;
                all[1] = sum;
            }
        }
        return all;
    }

    long[] middle(int sum) {
        long[] all = {NONE, 0};
        for (int h = 0; h < people.size(); h++) {
            int pairs = 0;
            for (int a = 0; a < people.size(); a++) {
                for (int b = 0; b < a; b++) {
                    if (a != h && b != h && through(a, b, sum, NONE)[0] != NONE && through(a, b, sum, h)[0] == NONE) {
                        pairs++;
                    }
                }
            }
            if (pairs > all[1]) {
                all[0] = h;
                all[1] = pairs;
            }
        }
        return all;
    }

    long[] leave(int heir) {
        long[] all = {NONE, NONE};
        for (int to = people.size() - 1; to >= 0; to--) {
            if (to != heir) {
                Person next = people.get(to).copy();
                for (int n = 1; n <= 30; n++) {
                    next.own[n] |= people.get(heir).own[n];
                }
                long worth = 0;
                for (int third = 0; third < people.size(); third++) {
                    worth += third == to || third == heir ? 0 : barred(next, people.get(third))[2];
                }
                if (all[0] == NONE || worth <= all[1]) {
                    all[0] = to;
                    all[1] = worth;
                }
            }
        }
        return all;
    }

    long[] buy(Person a, Person b) {
        long[] all = {NONE, NONE};
        for (int n = 30; n >= 1; n--) {
            long many = barred(a.with(n, true), b)[0];
            if (all[0] == NONE || many <= all[1]) {
                all[0] = n;
                all[1] = many;
            }
        }
        return all;
    }

    long[] pawn(Person a, Person b) {
        long[] all = {NONE, NONE};
        for (int n = 30; n >= 1; n--) {
            if (a.own[n]) {
                long[] fewest = fewest(a.with(n, false), b);
                int many = 0;
                for (int sum = 1; sum < 100; sum++) {
                    many += fewest[sum] == NONE ? 1 : 0;
                }
                if (all[0] == NONE || many <= all[1]) {
                    all[0] = n;
                    all[1] = many;
                }
            }
        }
        return all;
    }

    /** The first row that is otherwise, by a TEXT. */
    int otherwise(int[] rows, Person a, Person b, int text) {
        long[] pays = pays(a, b, text);
        for (int i = 0; i < rows.length; i += 2) {
            if (pays[rows[i]] != rows[i + 1]) {
                return i / 2;
            }
        }
        return NONE;
    }

    int rows(int[] rows, Person a, Person b, int what) {
        int bits = 0;
        for (int i = 0; i < 30; i++) {
            Person other = a.copy();
            int text = rule;
            boolean asked = true;
            switch (what) {
                case 0:
                    return otherwise(rows, a, b, rule);
                case 1:
                    other.kind = i;
                    asked = i < 6;
                    break;
                case 2:
                    other.more = i;
                    asked = i < 10;
                    break;
                case 3:
                    text = i;
                    asked = i < texts.size();
                    break;
                default:
                    asked = a.own[i + 1] == (what == 4);
                    other.own[i + 1] = what == 5;
            }
            if (asked && (otherwise(rows, other, b, text) == NONE) == (what != 4)) {
                bits |= 1 << i;
            }
        }
        return bits;
    }

    int drawn(int seed) {
        int s = seed;
        List<Person> drawn = new ArrayList<>();
        for (Person person : people) {
            Person other = person.copy();
            int z = s * 1103515245 + 12345;
            int y = z * 1103515245 + 12345;
            int bits = (y >>> 9) % 1024 * 1024 + (z >>> 9) % 1024;
            for (int n = 1; n <= 30; n++) {
                other.own[n] = (bits >> n - 1 & 1) == 1;
            }
            drawn.add(other);
            s = y;
        }
        return payable(drawn.get(0), drawn.get(1));
    }

    int payable(Person a, Person b) {
        int many = 0;
        long[] fewest = fewest(a, b);
        for (int sum = 1; sum < 100; sum++) {
            many += fewest[sum] == NONE ? 0 : 1;
        }
        return many;
    }
}
