import java.util.ArrayList;
import java.util.List;
import java.util.function.ToIntFunction;

/** Reads a TEXT into functions, in its own way: first all TOKENS, then the rules, a FAULT thrown as found. */
final class TextReader {
    private static final List<String> WORDS = List.of("n", "own", "more", "many", "heir", "day",
        "says", "meant", "worth", "or", "and", "not");

    private record Token(String bytes, int place) { }

    private static final class Fault extends Exception {
        private static final long serialVersionUID = 1L;
        private final int place;

        Fault(int place) {
            super("fault", null, false, false);
            this.place = place;
        }
    }

    private final List<Token> tokens = new ArrayList<>();
    private int at;
    private int open;

    TextReader(String text) {
        int i = 0;
        while (i < text.length()) {
            char c = text.charAt(i);
            int end = i + 1;
            if (c != ' ' && c != '\n') {
                String sort = Character.toString(c).matches("[a-z]") ? "[a-z]+" : c >= '0' && c <= '9' ? "[0-9]+" : ".";
                while (end < text.length() && !sort.equals(".") && text.substring(i, end + 1).matches(sort)) {
                    end++;
                }
                tokens.add(new Token(text.substring(i, end), i));
            }
            i = end;
        }
        tokens.add(new Token("", text.length()));
    }

    Model.Text read() {
        Model.Text text = new Model.Text();
        try {
            for (String key : new String[] {"says", "meant", "worth"}) {
                want(key);
                text.parts.add(either());
                want(";");
            }
            want("");
        } catch (Fault fault) {
            text.fault = fault.place;
        }
        return text;
    }

    private boolean is(String bytes) {
        return tokens.get(at).bytes.equals(bytes);
    }

    private void want(String bytes) throws Fault {
        if (!is(bytes)) {
            throw new Fault(tokens.get(at).place);
        }
        at++;
    }

    private void opened() throws Fault {
        if (open == 5) {
            throw new Fault(tokens.get(at).place);
        }
        open++;
        at++;
    }

    private ToIntFunction<Model.Asked> either() throws Fault {
        ToIntFunction<Model.Asked> left = both();
        while (is("or")) {
            at++;
            ToIntFunction<Model.Asked> a = left;
            ToIntFunction<Model.Asked> b = both();
            left = x -> a.applyAsInt(x) != 0 || b.applyAsInt(x) != 0 ? 1 : 0;
        }
        return left;
    }

    private ToIntFunction<Model.Asked> both() throws Fault {
        ToIntFunction<Model.Asked> left = not();
        while (is("and")) {
            at++;
            ToIntFunction<Model.Asked> a = left;
            ToIntFunction<Model.Asked> b = not();
            left = x -> a.applyAsInt(x) != 0 && b.applyAsInt(x) != 0 ? 1 : 0;
        }
        return left;
    }

    private ToIntFunction<Model.Asked> not() throws Fault {
        if (is("not")) {
            opened();
            ToIntFunction<Model.Asked> a = not();
            open--;
            return x -> a.applyAsInt(x) == 0 ? 1 : 0;
        }
        ToIntFunction<Model.Asked> a = sum();
        if (is("<")) {
            at++;
            ToIntFunction<Model.Asked> b = sum();
            return x -> a.applyAsInt(x) < b.applyAsInt(x) ? 1 : 0;
        }
        if (is("=")) {
            at++;
            ToIntFunction<Model.Asked> b = sum();
            return x -> a.applyAsInt(x) == b.applyAsInt(x) ? 1 : 0;
        }
        return a;
    }

    private ToIntFunction<Model.Asked> sum() throws Fault {
        ToIntFunction<Model.Asked> left = term();
        while (is("+") || is("-")) {
            boolean plus = is("+");
            at++;
            ToIntFunction<Model.Asked> a = left;
            ToIntFunction<Model.Asked> b = term();
            left = x -> plus ? a.applyAsInt(x) + b.applyAsInt(x) : a.applyAsInt(x) - b.applyAsInt(x);
        }
        return left;
    }

    private ToIntFunction<Model.Asked> term() throws Fault {
        ToIntFunction<Model.Asked> left = one();
        while (is("*")) {
            at++;
            ToIntFunction<Model.Asked> a = left;
            ToIntFunction<Model.Asked> b = one();
            left = x -> a.applyAsInt(x) * b.applyAsInt(x);
        }
        return left;
    }

    private ToIntFunction<Model.Asked> one() throws Fault {
        Token token = tokens.get(at);
        if (is("(")) {
            opened();
            ToIntFunction<Model.Asked> a = either();
            want(")");
            open--;
            return a;
        }
        if (is("-")) {
            opened();
            ToIntFunction<Model.Asked> a = one();
            open--;
            return x -> -a.applyAsInt(x);
        }
        if (token.bytes.matches("[0-9]{1,4}")) {
            at++;
            int v = Integer.parseInt(token.bytes);
            return x -> v;
        }
        int name = WORDS.indexOf(token.bytes);
        if (name < 0 || name > 5) {
            throw new Fault(token.place);
        }
        at++;
        switch (name) {
            case 0:
                return Model.Asked::n;
            case 1:
                return Model.Asked::own;
            case 2:
                return Model.Asked::more;
            case 3:
                return Model.Asked::many;
            case 4:
                return Model.Asked::heir;
            default:
                return Model.Asked::day;
        }
    }
}
