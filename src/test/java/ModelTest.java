import java.util.ArrayList;
import java.util.List;
import java.util.Random;

/**
 * Runs of calls on TemplateShop against a model that follows the document word for word: it
 * rewrites the text, the first USE again and again. The seeds are fixed: every time the same runs.
 */
public final class ModelTest {
    private static final int OK = 0, SHAPE = -1, LARGE = -2, BAD = -3, FULL = -4;
    private static final long NONE = 100000000000L;

    /** A text longer than this on the way is not rewritten: the model gives up on that source. */
    private static final int LONGEST = 60000;

    private record Token(int kind, int value, int origin) { }

    private record Concept(int holes, List<Token> template) { }

    /** An expansion, or, with tokens null, why there is none. */
    private record Expansion(List<Token> tokens, int uses, boolean givenUp) { }

    private static final class Model {
        final List<Concept> concepts = new ArrayList<>();
        final List<List<Token>> sources = new ArrayList<>();
        final Expansion[] expansions = new Expansion[4];
        List<Token> draft = new ArrayList<>();
        int place = -1;
        int result = 0;
        List<Integer> said = new ArrayList<>();

        Model() {
            for (int s = 0; s < 4; s++) {
                sources.add(new ArrayList<>());
            }
        }

        int token(int kind, int value) {
            boolean known = (kind >= 0 && kind <= 10) || (kind >= 16 && kind <= 21);
            boolean outside = (kind == 1 || kind == 7) && (value < -2 || value > 9)
                || kind == 9 && (value < 0 || value > 2);
            if (!known || outside) {
                return BAD;
            }
            if (draft.size() == 24) {
                return FULL;
            }
            draft.add(new Token(kind, value, draft.size()));
            return draft.size();
        }

        int arity(int kind) {
            int[] plain = {0, 0, 2, 2, 2, 2, 3, 2, 1, 0, 0};
            return kind >= 16 ? concepts.get(kind - 16).holes() : plain[kind];
        }

        boolean hasPlace(int k, boolean template, int holes) {
            Token t = draft.get(k);
            if (t.kind() >= 16 && t.kind() - 16 >= concepts.size()) {
                return false;
            }
            if (template) {
                return k < 12 && (t.kind() != 9 || t.value() < holes);
            }
            boolean variable = t.kind() == 1 || t.kind() == 7;
            return t.kind() != 9 && t.kind() != 10 && !(variable && t.value() < 0);
        }

        /** The number of the first token behind the expression at k, or -1 if it is not whole. */
        int parse(int k, boolean template, int holes) {
            if (k >= draft.size() || !hasPlace(k, template, holes)) {
                wrongAt = k;
                return -1;
            }
            int next = k + 1;
            for (int j = arity(draft.get(k).kind()); j > 0; j--) {
                next = parse(next, template, holes);
                if (next < 0) {
                    return -1;
                }
            }
            return next;
        }

        int wrongAt;

        boolean isWhole(boolean template, int holes) {
            int end = parse(0, template, holes);
            place = end < 0 ? wrongAt : end < draft.size() ? end : -1;
            return place < 0;
        }

        int define(int holes) {
            if (holes < 0 || holes > 3) {
                return BAD;
            }
            if (concepts.size() == 6) {
                return FULL;
            }
            boolean whole = isWhole(true, holes);
            if (whole) {
                concepts.add(new Concept(holes, draft));
            }
            draft = new ArrayList<>();
            return whole ? concepts.size() - 1 : SHAPE;
        }

        int forget() {
            int latest = concepts.size() - 1;
            for (List<Token> source : sources) {
                for (Token t : source) {
                    if (t.kind() == 16 + latest) {
                        return BAD;
                    }
                }
            }
            if (latest < 0) {
                return BAD;
            }
            concepts.remove(latest);
            return latest;
        }

        int source(int s) {
            if (s < 0 || s > 3) {
                return BAD;
            }
            place = -1;
            boolean whole = draft.isEmpty() || isWhole(false, 0);
            if (whole) {
                sources.set(s, draft);
                expansions[s] = null;
            }
            draft = new ArrayList<>();
            return whole ? OK : SHAPE;
        }

        int endOf(List<Token> text, int k) {
            int open = 1;
            int next = k;
            while (open > 0) {
                open += arity(text.get(next).kind()) - 1;
                next++;
            }
            return next;
        }

        Expansion expansion(int s) {
            if (expansions[s] == null) {
                expansions[s] = rewrite(sources.get(s));
            }
            return expansions[s];
        }

        Expansion rewrite(List<Token> source) {
            List<Token> text = new ArrayList<>(source);
            int uses = 0;
            int first = 0;
            while (true) {
                while (first < text.size() && text.get(first).kind() < 16) {
                    first++;
                }
                if (first == text.size()) {
                    boolean large = text.size() > 2000;
                    return new Expansion(large ? null : text, uses, false);
                }
                if (uses == 2000) {
                    return new Expansion(null, 0, false);
                }
                text = replace(text, first, uses);
                uses++;
                if (text.size() > LONGEST) {
                    return new Expansion(null, 0, true);
                }
            }
        }

        List<Token> replace(List<Token> text, int first, int i) {
            Token use = text.get(first);
            Concept concept = concepts.get(use.kind() - 16);
            List<List<Token>> operands = new ArrayList<>();
            int next = first + 1;
            for (int j = 0; j < concept.holes(); j++) {
                int end = endOf(text, next);
                operands.add(text.subList(next, end));
                next = end;
            }
            List<Token> out = new ArrayList<>(text.subList(0, first));
            for (Token t : concept.template()) {
                boolean variable = t.kind() == 1 || t.kind() == 7;
                if (t.kind() == 9) {
                    out.addAll(operands.get(t.value()));
                } else if (t.kind() == 10) {
                    out.add(new Token(0, use.value(), use.origin()));
                } else if (variable && t.value() < 0) {
                    int j = -1 - t.value();
                    out.add(new Token(t.kind(), 100 + 2 * i + j, use.origin()));
                } else {
                    out.add(new Token(t.kind(), t.value(), use.origin()));
                }
            }
            out.addAll(text.subList(next, text.size()));
            return out;
        }

        /** BAD, LARGE or 0 where there is no token to ask about, else 1. */
        int state(int s) {
            if (s < 0 || s > 3) {
                return BAD;
            }
            if (sources.get(s).isEmpty()) {
                return 0;
            }
            return expansion(s).tokens() == null ? LARGE : 1;
        }

        boolean has(int s, int k) {
            return state(s) == 1 && k >= 0 && k < expansion(s).tokens().size();
        }

        int size(int s) {
            return state(s) == 1 ? expansion(s).tokens().size() : state(s);
        }

        int uses(int s) {
            return state(s) == 1 ? expansion(s).uses() : state(s);
        }

        int kinds(int s, int kind) {
            if (kind < 0 || kind > 8) {
                return BAD;
            }
            if (state(s) != 1) {
                return state(s);
            }
            int count = 0;
            for (Token t : expansion(s).tokens()) {
                count += t.kind() == kind ? 1 : 0;
            }
            return count;
        }

        int depth(int s) {
            if (state(s) != 1) {
                return state(s);
            }
            int most = 0;
            for (int k = 0; k < size(s); k++) {
                int chain = 1;
                for (int up = parent(s, k); up >= 0; up = parent(s, up)) {
                    chain++;
                }
                most = Math.max(most, chain);
            }
            return most;
        }

        long at(int s, int k) {
            if (!has(s, k)) {
                return NONE;
            }
            Token t = expansion(s).tokens().get(k);
            boolean valued = t.kind() == 0 || t.kind() == 1 || t.kind() == 7;
            return (valued ? 32L * t.value() : 0) + t.kind();
        }

        int origin(int s, int k) {
            return has(s, k) ? expansion(s).tokens().get(k).origin() : BAD;
        }

        int parent(int s, int k) {
            if (!has(s, k)) {
                return BAD;
            }
            List<Token> text = expansion(s).tokens();
            int open = 0;
            for (int up = k - 1; up >= 0; up--) {
                open += 1 - arity(text.get(up).kind());
                if (open <= 0) {
                    return up;
                }
            }
            return -1;
        }

        int span(int s, int k) {
            return has(s, k) ? endOf(expansion(s).tokens(), k) - k : BAD;
        }

        int run(int s, int a, int b, int c) {
            int state = state(s);
            if (state == 0 || state == BAD) {
                return BAD;
            }
            said = new ArrayList<>();
            result = 0;
            if (state == LARGE) {
                return LARGE;
            }
            result = work(expansion(s).tokens(), 0, new int[] {a, b, c}, null);
            return OK;
        }

        record Bound(int variable, int worth, Bound around) { }

        int work(List<Token> text, int k, int[] given, Bound bound) {
            Token t = text.get(k);
            int first = k + 1;
            switch (t.kind()) {
                case 0:
                    return t.value();
                case 1:
                    for (Bound b = bound; b != null; b = b.around()) {
                        if (b.variable() == t.value()) {
                            return b.worth();
                        }
                    }
                    return t.value() < 3 ? given[t.value()] : 0;
                case 8:
                    int told = work(text, first, given, bound);
                    said.add(told);
                    return told;
                default:
                    break;
            }
            int one = work(text, first, given, bound);
            int second = endOf(text, first);
            if (t.kind() == 6) {
                return work(text, one != 0 ? second : endOf(text, second), given, bound);
            }
            if (t.kind() == 7) {
                return work(text, second, given, new Bound(t.value(), one, bound));
            }
            int two = work(text, second, given, bound);
            return t.kind() == 2 ? one + two : t.kind() == 3 ? one - two
                : t.kind() == 4 ? one * two : one < two ? 1 : 0;
        }

        int said(int k) {
            return k >= 0 && k < 20 && k < said.size() ? said.get(k) : 0;
        }
    }

    private static int wrong = 0;
    private static int calls = 0;
    private static int leftOut = 0;
    private static int large = 0;
    private static int longOnes = 0;

    private final Random random;
    private final int style;
    private final int usePercent;
    private final TemplateShop shop = new TemplateShop();
    private final Model model = new Model();
    private final StringBuilder told = new StringBuilder();
    private int callsHere = 0;
    private boolean failed = false;

    private ModelTest(int seed) {
        random = new Random(seed);
        style = seed % 4;
        usePercent = new int[] {15, 40, 50, 60}[style] + random.nextInt(15);
    }

    private void due(String call, long got, long want) {
        calls++;
        callsHere++;
        told.append("  ").append(call).append(" = ").append(got).append('\n');
        if (got != want && !failed) {
            failed = true;
            wrong++;
            System.out.println(told + "due is " + want);
        }
    }

    private int below(int bound) {
        return random.nextInt(bound);
    }

    private int someInt() {
        int[] some = {0, 1, 2, -1, 3, Integer.MIN_VALUE, Integer.MAX_VALUE, 32, -100};
        return below(3) == 0 ? random.nextInt() : some[below(some.length)];
    }

    private void token(int kind, int value) {
        String call = "token(" + kind + ", " + value + ")";
        due(call, shop.token(kind, value), model.token(kind, value));
    }

    /** One token that has a place, with at most so many operands if there is such a one. */
    private int[] fitting(boolean template, int holes, int mostOperands) {
        for (int attempt = 0; attempt < 200; attempt++) {
            int kind = below(11);
            boolean wantsUse = below(100) < usePercent;
            if (wantsUse && !model.concepts.isEmpty()) {
                kind = 16 + below(model.concepts.size());
            } else if (template && holes > 0 && below(2) == 0) {
                kind = 9;
            }
            if (!template && kind >= 9 && kind < 16 || kind == 9 && holes == 0) {
                continue;
            }
            if (model.arity(kind) <= mostOperands) {
                if (template && kind < 2 && below(3) > 0 && holes > 0) {
                    continue;
                }
                int variable = template && below(2) == 0 ? -1 - below(2) : below(4);
                boolean named = kind == 1 || kind == 7;
                return new int[] {kind, kind == 9 ? below(holes) : named ? variable : someInt()};
            }
        }
        return new int[] {0, below(5)};
    }

    private void expression(boolean template, int holes, int most) {
        int open = 1;
        int left = most;
        while (open > 0) {
            int[] t = fitting(template, holes, left - open);
            token(t[0], t[1]);
            open += model.arity(t[0]) - 1;
            left--;
        }
    }

    private void define() {
        int holes = style == 3 ? 1 : style == 2 ? 1 + below(2) : below(4);
        expression(true, holes, style < 2 ? 1 + below(12) : 6 + below(7));
        due("define(" + holes + ")", shop.define(holes), model.define(holes));
        due("place()", shop.place(), model.place);
    }

    private void source() {
        int s = below(4);
        expression(false, 0, style < 2 ? 1 + below(24) : 12 + below(13));
        due("source(" + s + ")", shop.source(s), model.source(s));
        due("place()", shop.place(), model.place);
    }

    /** Tokens without a plan, and calls with arguments from outside. */
    private void wild() {
        for (int k = below(6); k > 0; k--) {
            token(below(25) - 1, below(2) == 0 ? below(15) - 4 : someInt());
        }
        int arg = below(7) - 1;
        if (below(2) == 0) {
            due("define(" + arg + ")", shop.define(arg), model.define(arg));
        } else {
            due("source(" + arg + ")", shop.source(arg), model.source(arg));
        }
        due("place()", shop.place(), model.place);
    }

    private boolean isGivenUp(int s) {
        return model.state(s) == LARGE && model.expansion(s).givenUp();
    }

    private void ask() {
        int s = below(20) == 0 ? below(8) - 2 : below(4);
        if (isGivenUp(s)) {
            leftOut++;
            return;
        }
        large += model.state(s) == LARGE ? 1 : 0;
        longOnes += model.size(s) > 100 ? 1 : 0;
        due("size(" + s + ")", shop.size(s), model.size(s));
        due("uses(" + s + ")", shop.uses(s), model.uses(s));
        due("depth(" + s + ")", shop.depth(s), model.depth(s));
        int kind = below(12) - 1;
        due("kinds(" + s + ", " + kind + ")", shop.kinds(s, kind), model.kinds(s, kind));
        for (int j = 0; j < 5; j++) {
            int k = below(Math.max(model.size(s), 0) + 2) - 1;
            String args = "(" + s + ", " + k + ")";
            due("at" + args, shop.at(s, k), model.at(s, k));
            due("origin" + args, shop.origin(s, k), model.origin(s, k));
            due("parent" + args, shop.parent(s, k), model.parent(s, k));
            due("span" + args, shop.span(s, k), model.span(s, k));
        }
        runOnce(s);
    }

    private void runOnce(int s) {
        int a = someInt();
        int b = someInt();
        int c = someInt();
        String call = "run(" + s + ", " + a + ", " + b + ", " + c + ")";
        due(call, shop.run(s, a, b, c), model.run(s, a, b, c));
        due("result()", shop.result(), model.result);
        due("says()", shop.says(), model.said.size());
        for (int j = 0; j < 3; j++) {
            int k = below(23) - 1;
            due("said(" + k + ")", shop.said(k), model.said(k));
        }
    }

    private void go() {
        while (callsHere < 440 && !failed) {
            int choice = below(20);
            boolean hasRoom = model.concepts.size() < 6 || below(10) == 0;
            if (choice < 5 && hasRoom) {
                define();
            } else if (choice < 10) {
                source();
            } else if (choice < 11) {
                wild();
            } else if (choice < 13) {
                due("forget()", shop.forget(), model.forget());
            } else {
                ask();
            }
        }
    }

    public static void main(String[] args) {
        int runs = args.length > 0 ? Integer.parseInt(args[0]) : 3000;
        for (int seed = 0; seed < runs && wrong < 3; seed++) {
            new ModelTest(seed).go();
        }
        System.out.println(calls + " calls in " + runs + " runs; asked about " + longOnes
            + " expansions of over 100 tokens and " + large + " LARGE ones, left " + leftOut
            + " that are too long for the model; " + wrong + " runs wrong");
        if (wrong != 0) {
            System.exit(1);
        }
    }
}
