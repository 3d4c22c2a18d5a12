/** For each promise of the document: ordinary inputs, the edges it names, wrong inputs. */
public final class PromisesTest {
    private static final int OK = 0, SHAPE = -1, LARGE = -2, BAD = -3, FULL = -4;
    private static final long NONE = 100000000000L;
    private static final int NUM = 0, VAR = 1, ADD = 2, SUB = 3, MUL = 4, LESS = 5, IF = 6;
    private static final int LET = 7, SAY = 8, HOLE = 9, OWN = 10, USE = 16;
    private static final int MIN = Integer.MIN_VALUE, MAX = Integer.MAX_VALUE;

    private static int checks = 0;
    private static int wrong = 0;
    private static String promise = "";

    private static void due(String call, long got, long want) {
        checks++;
        if (got != want) {
            wrong++;
            System.out.println(promise + ": " + call + " answered " + got + ", due is " + want);
        }
    }

    /** Appends tokens, given as kind, value, kind, value .. to a draft that is empty. */
    private static void draft(TemplateShop x, int... tokens) {
        for (int k = 0; k < tokens.length; k += 2) {
            int count = k / 2 + 1;
            due("token " + count + " of a draft", x.token(tokens[k], tokens[k + 1]), count);
        }
    }

    private static void repeat(TemplateShop x, int times, int kind, int value) {
        for (int k = 0; k < times; k++) {
            x.token(kind, value);
        }
    }

    private static void concept(TemplateShop x, int number, int holes, int... tokens) {
        draft(x, tokens);
        due("define(" + holes + ")", x.define(holes), number);
    }

    private static void setSource(TemplateShop x, int s, int... tokens) {
        draft(x, tokens);
        due("source(" + s + ")", x.source(s), OK);
    }

    private static void tokensAre(TemplateShop x, int s, int... tokens) {
        int count = tokens.length / 2;
        due("size", x.size(s), count);
        for (int k = 0; k < count; k++) {
            due("at " + k, x.at(s, k), 32L * tokens[2 * k + 1] + tokens[2 * k]);
        }
        due("at behind the last", x.at(s, count), NONE);
    }

    private static void originsAre(TemplateShop x, int s, int... want) {
        for (int k = 0; k < want.length; k++) {
            due("origin " + k, x.origin(s, k), want[k]);
        }
        due("origin behind the last", x.origin(s, want.length), BAD);
    }

    private static void parentsAre(TemplateShop x, int s, int... want) {
        for (int k = 0; k < want.length; k++) {
            due("parent " + k, x.parent(s, k), want[k]);
        }
        due("parent behind the last", x.parent(s, want.length), BAD);
    }

    private static void spansAre(TemplateShop x, int s, int... want) {
        for (int k = 0; k < want.length; k++) {
            due("span " + k, x.span(s, k), want[k]);
        }
        due("span behind the last", x.span(s, want.length), BAD);
    }

    private static void resultIs(int want, int... tokens) {
        TemplateShop x = new TemplateShop();
        setSource(x, 0, tokens);
        due("run(0, 5, 6, 7)", x.run(0, 5, 6, 7), OK);
        due("result", x.result(), want);
    }

    /** Source 3 with more USEs than an expansion may have; concepts 0 to 3 are made. */
    private static void makeLarge(TemplateShop x) {
        concept(x, 0, 1, HOLE, 0);
        for (int c = 1; c <= 3; c++) {
            repeat(x, 11, USE + c - 1, 0);
            x.token(HOLE, 0);
            due("define", x.define(1), c);
        }
        setSource(x, 3, USE + 3, 0, USE + 3, 0, NUM, 1);
    }

    private static void promise1() {
        promise = "promise 1, a new object";
        TemplateShop x = new TemplateShop();
        for (int s = 0; s < 4; s++) {
            due("size", x.size(s), 0);
            due("uses", x.uses(s), 0);
            due("depth", x.depth(s), 0);
            due("kinds", x.kinds(s, NUM), 0);
            due("at", x.at(s, 0), NONE);
            due("run", x.run(s, 1, 2, 3), BAD);
        }
        due("result", x.result(), 0);
        due("says", x.says(), 0);
        due("said", x.said(0), 0);
        due("place", x.place(), -1);
        due("forget", x.forget(), BAD);
        due("token", x.token(NUM, 1), 1);
        due("define", x.define(0), 0);
        TemplateShop y = new TemplateShop();
        due("forget of another object", y.forget(), BAD);
        due("token of another object", y.token(NUM, 1), 1);
    }

    private static void promise2() {
        promise = "promise 2, token";
        TemplateShop x = new TemplateShop();
        int count = 0;
        for (int kind = -40; kind <= 60; kind++) {
            boolean known = (kind >= 0 && kind <= 10) || (kind >= 16 && kind <= 21);
            due("token(" + kind + ", 0)", x.token(kind, 0), known ? ++count : BAD);
        }
        due("token(MIN, 0)", x.token(MIN, 0), BAD);
        due("token(MAX, 0)", x.token(MAX, 0), BAD);
        tokenValues(VAR, -2, 9);
        tokenValues(LET, -2, 9);
        tokenValues(HOLE, 0, 2);
        for (int kind = 0; kind <= 21; kind++) {
            boolean isFree = kind != VAR && kind != LET && kind != HOLE;
            if (isFree && (kind <= OWN || kind >= USE)) {
                tokenValues(kind, MIN, MAX);
            }
        }
        tokenFull();
    }

    private static void tokenValues(int kind, int least, int most) {
        TemplateShop x = new TemplateShop();
        due("token(" + kind + ", least)", x.token(kind, least), 1);
        due("token(" + kind + ", most)", x.token(kind, most), 2);
        if (least > MIN) {
            due("token(" + kind + ", least - 1)", x.token(kind, least - 1), BAD);
            due("token(" + kind + ", most + 1)", x.token(kind, most + 1), BAD);
            due("token(" + kind + ", MIN)", x.token(kind, MIN), BAD);
            due("token(" + kind + ", MAX)", x.token(kind, MAX), BAD);
        }
        due("token after " + kind, x.token(NUM, 0), 3);
    }

    private static void tokenFull() {
        TemplateShop x = new TemplateShop();
        for (int k = 1; k <= 23; k++) {
            due("token", x.token(SAY, 0), k);
        }
        due("token 24", x.token(NUM, 4), 24);
        due("token 25", x.token(NUM, 5), FULL);
        due("token 25 again", x.token(USE, 5), FULL);
        due("source", x.source(0), OK);
        due("size", x.size(0), 24);
        due("at", x.at(0, 23), 128);
        due("token after source", x.token(NUM, 5), 1);
    }

    private static void promise3() {
        promise = "promise 3, define";
        TemplateShop x = new TemplateShop();
        draft(x, HOLE, 0);
        due("define(-1)", x.define(-1), BAD);
        due("define(4)", x.define(4), BAD);
        due("define(MIN)", x.define(MIN), BAD);
        due("define(MAX)", x.define(MAX), BAD);
        due("define with the draft that stayed", x.define(1), 0);
        due("define with an empty draft", x.define(1), SHAPE);
        concept(x, 1, 0, NUM, 3);
        concept(x, 2, 3, IF, 0, HOLE, 2, HOLE, 1, HOLE, 0);
        concept(x, 3, 3, NUM, 3);
        concept(x, 4, 2, USE, 1, USE + 1, 1);
        concept(x, 5, 1, USE + 4, 0, NUM, 1, NUM, 2);
        draft(x, NUM, 9);
        due("define of a seventh", x.define(0), FULL);
        due("token on the draft that stayed", x.token(NUM, 1), 2);
        due("define of no template with six", x.define(0), FULL);
        due("define(4) with six", x.define(4), BAD);
        due("source of the draft that stayed", x.source(0), SHAPE);
        setSource(x, 0, USE + 2, 0, NUM, 1, NUM, 2, NUM, 3);
        tokensAre(x, 0, IF, 0, NUM, 3, NUM, 2, NUM, 1);
        setSource(x, 1, USE + 5, 0, NUM, 1);
        tokensAre(x, 1, NUM, 3);
        defineShapes();
    }

    private static void defineShapes() {
        TemplateShop x = new TemplateShop();
        for (int holes = 0; holes <= 3; holes++) {
            for (int k = 0; k <= 2; k++) {
                draft(x, HOLE, k);
                due("HOLE " + k + " with " + holes, x.define(holes), k < holes ? 0 : SHAPE);
                if (k < holes) {
                    due("forget", x.forget(), 0);
                }
            }
        }
        draft(x, USE, 0);
        due("a USE of itself", x.define(0), SHAPE);
        concept(x, 0, 0, LET, -2, OWN, 0, VAR, -1);
        draft(x, USE + 1, 0);
        due("a USE of itself, the second", x.define(0), SHAPE);
        draft(x, ADD, 0, NUM, 1);
        due("too few operands", x.define(0), SHAPE);
        due("the draft is empty then", x.token(NUM, 1), 1);
        due("define", x.define(0), 1);
        repeat(x, 11, SAY, 0);
        x.token(NUM, 1);
        due("twelve tokens", x.define(0), 2);
        repeat(x, 12, SAY, 0);
        x.token(NUM, 1);
        due("thirteen tokens", x.define(0), SHAPE);
    }

    private static void promise4() {
        promise = "promise 4, forget";
        TemplateShop x = new TemplateShop();
        due("forget of none", x.forget(), BAD);
        concept(x, 0, 1, HOLE, 0);
        concept(x, 1, 1, USE, 0, HOLE, 0);
        concept(x, 2, 0, NUM, 8);
        setSource(x, 2, ADD, 0, NUM, 1, USE, 0, USE + 2, 7);
        due("forget of a used one", x.forget(), BAD);
        draft(x, NUM, 1, NUM, 1);
        due("source that is none", x.source(2), SHAPE);
        due("forget of one still used", x.forget(), BAD);
        setSource(x, 2, USE, 0, NUM, 5);
        draft(x, USE + 2, 0);
        due("forget of one in the draft alone", x.forget(), 2);
        due("source with one that is no more", x.source(1), SHAPE);
        due("forget of one below the latest", x.forget(), 1);
        due("forget of a used one", x.forget(), BAD);
        due("size", x.size(2), 1);
        concept(x, 1, 0, SAY, 0, NUM, 4);
        setSource(x, 0, USE + 1, 0);
        tokensAre(x, 0, SAY, 0, NUM, 4);
        due("source made empty", x.source(0), OK);
        due("forget", x.forget(), 1);
        due("source made empty", x.source(2), OK);
        due("forget", x.forget(), 0);
        due("forget of none", x.forget(), BAD);
        concept(x, 0, 0, NUM, 1);
        for (int s = 0; s < 4; s++) {
            setSource(x, s, USE, 0);
            due("forget of one in source " + s, x.forget(), BAD);
            due("source made empty", x.source(s), OK);
        }
        due("forget", x.forget(), 0);
    }

    private static void promise5() {
        promise = "promise 5, source";
        TemplateShop x = new TemplateShop();
        for (int s = 0; s < 4; s++) {
            setSource(x, s, NUM, s + 10);
        }
        for (int s = 0; s < 4; s++) {
            tokensAre(x, s, NUM, s + 10);
        }
        draft(x, NUM, 1);
        due("source(-1)", x.source(-1), BAD);
        due("source(4)", x.source(4), BAD);
        due("source(MIN)", x.source(MIN), BAD);
        due("source(MAX)", x.source(MAX), BAD);
        due("source of the draft that stayed", x.source(1), OK);
        tokensAre(x, 1, NUM, 1);
        due("source of an empty draft", x.source(1), OK);
        due("size", x.size(1), 0);
        due("size of another", x.size(2), 1);
        sourceRefused(x, HOLE, 0);
        sourceRefused(x, OWN, 0);
        sourceRefused(x, VAR, -1);
        sourceRefused(x, LET, -1, NUM, 1, NUM, 1);
        sourceRefused(x, USE, 0);
        sourceRefused(x, NUM, 1, NUM, 1);
        sourceRefused(x, ADD, 0, NUM, 1);
        setSource(x, 0, LET, 9, VAR, 0, VAR, 9);
        tokensAre(x, 0, LET, 9, VAR, 0, VAR, 9);
        longestSource();
    }

    private static void longestSource() {
        TemplateShop x = new TemplateShop();
        for (int s = 3; s >= 0; s--) {
            repeat(x, 23, SAY, 0);
            x.token(NUM, s + 1);
            due("source of 24 tokens", x.source(s), OK);
        }
        for (int s = 0; s < 4; s++) {
            due("size", x.size(s), 24);
            due("at the first", x.at(s, 0), SAY);
            due("at the last", x.at(s, 23), 32L * (s + 1));
        }
    }

    private static void sourceRefused(TemplateShop x, int... tokens) {
        draft(x, tokens);
        due("source that is none", x.source(2), SHAPE);
        tokensAre(x, 2, NUM, 12);
    }

    private static void promise6() {
        promise = "promise 6, place";
        TemplateShop x = new TemplateShop();
        due("define", x.define(0), SHAPE);
        due("place in an empty template", x.place(), 0);
        due("source", x.source(0), OK);
        due("place after OK", x.place(), -1);
        templatePlace(1, 0, NUM, 1, NUM, 2);
        templatePlace(2, 0, ADD, 0, NUM, 1);
        templatePlace(1, 0, ADD, 0, HOLE, 0, NUM, 2);
        templatePlace(2, 2, ADD, 0, HOLE, 1, HOLE, 2);
        templatePlace(1, 0, SAY, 0, USE, 0);
        templatePlace(0, 3, USE + 5, 0, HOLE, 0, HOLE, 0);
        templatePlace(-1, 0, LET, -1, OWN, 0, VAR, -2);
        templatePlace(12, 0, SAY, 0, SAY, 0, SAY, 0, SAY, 0, SAY, 0, SAY, 0, SAY, 0, SAY, 0,
            SAY, 0, SAY, 0, SAY, 0, SAY, 0, NUM, 1);
        templatePlace(12, 0, SAY, 0, SAY, 0, SAY, 0, SAY, 0, SAY, 0, SAY, 0, SAY, 0, SAY, 0,
            SAY, 0, SAY, 0, SAY, 0, SAY, 0);
        templatePlace(12, 0, SAY, 0, SAY, 0, SAY, 0, SAY, 0, SAY, 0, SAY, 0, SAY, 0, SAY, 0,
            SAY, 0, SAY, 0, SAY, 0, NUM, 1, NUM, 1);
        sourcePlace(0, HOLE, 0);
        sourcePlace(1, SAY, 0, OWN, 0);
        sourcePlace(2, ADD, 0, NUM, -1, VAR, -1, NUM, 1);
        sourcePlace(0, LET, -2, NUM, 1, NUM, 1);
        sourcePlace(1, SAY, 0, USE, 0);
        sourcePlace(1, NUM, 1, HOLE, 0);
        sourcePlace(4, IF, 0, NUM, 1, NUM, 1, SAY, 0);
        sourcePlace(-1, LET, 0, NUM, 1, VAR, 0);
        placeStays();
    }

    private static void templatePlace(int want, int holes, int... tokens) {
        TemplateShop x = new TemplateShop();
        draft(x, tokens);
        due("define", x.define(holes), want < 0 ? 0 : SHAPE);
        due("place", x.place(), want);
    }

    private static void sourcePlace(int want, int... tokens) {
        TemplateShop x = new TemplateShop();
        draft(x, tokens);
        due("source", x.source(3), want < 0 ? OK : SHAPE);
        due("place", x.place(), want);
    }

    private static void placeStays() {
        TemplateShop x = new TemplateShop();
        for (int c = 0; c < 5; c++) {
            concept(x, c, 2, HOLE, 1);
        }
        draft(x, ADD, 0, NUM, 1);
        due("define", x.define(0), SHAPE);
        due("place", x.place(), 2);
        due("define(4)", x.define(4), BAD);
        due("source(4)", x.source(4), BAD);
        due("forget", x.forget(), 4);
        due("token", x.token(NUM, 1), 1);
        due("size", x.size(0), 0);
        due("place after BAD", x.place(), 2);
        due("define", x.define(0), 4);
        due("place after a concept", x.place(), -1);
        concept(x, 5, 0, NUM, 1);
        draft(x, USE, 0, NUM, 1, NUM, 1, NUM, 1);
        due("source", x.source(0), SHAPE);
        due("define", x.define(0), FULL);
        due("place after FULL", x.place(), 3);
        due("source of an empty draft", x.source(0), OK);
        due("place after an empty source", x.place(), -1);
        due("source(-1)", x.source(-1), BAD);
        due("define", x.define(0), FULL);
        due("place after BAD and FULL", x.place(), -1);
    }

    private static void promises7And8() {
        promise = "promises 7 and 8, size and uses";
        TemplateShop x = new TemplateShop();
        concept(x, 0, 1, ADD, 0, HOLE, 0, HOLE, 0);
        concept(x, 1, 2, HOLE, 1);
        setSource(x, 0, NUM, 1);
        due("size", x.size(0), 1);
        due("uses", x.uses(0), 0);
        setSource(x, 0, USE, 0, USE, 0, NUM, 1);
        due("size", x.size(0), 7);
        due("uses of copies too", x.uses(0), 3);
        setSource(x, 0, USE + 1, 0, USE, 0, NUM, 1, SAY, 0, NUM, 1);
        due("size", x.size(0), 2);
        due("uses without those dropped", x.uses(0), 1);
        due("size of an empty one", x.size(1), 0);
        due("uses of an empty one", x.uses(1), 0);
        for (int s : new int[] {-1, 4, MIN, MAX}) {
            due("size(" + s + ")", x.size(s), BAD);
            due("uses(" + s + ")", x.uses(s), BAD);
        }
        x = new TemplateShop();
        makeLarge(x);
        due("size", x.size(3), LARGE);
        due("uses", x.uses(3), LARGE);
    }

    private static void promise9() {
        promise = "promise 9, kinds";
        TemplateShop x = new TemplateShop();
        concept(x, 0, 1, ADD, 0, OWN, 0, LET, -1, HOLE, 0, VAR, -1);
        setSource(x, 1, IF, 0, LESS, 0, VAR, 0, SUB, 0, NUM, 1, VAR, 1, SAY, 0, USE, 7, NUM, 2,
            MUL, 0, USE, 8, NUM, 3, NUM, 4);
        int[] want = {6, 4, 2, 1, 1, 1, 1, 2, 1};
        for (int kind = 0; kind <= 8; kind++) {
            due("kinds(1, " + kind + ")", x.kinds(1, kind), want[kind]);
        }
        for (int kind : new int[] {-1, 9, 10, 16, MIN, MAX}) {
            due("kinds(1, " + kind + ")", x.kinds(1, kind), BAD);
            due("kinds(0, " + kind + ")", x.kinds(0, kind), BAD);
            due("kinds(4, " + kind + ")", x.kinds(4, kind), BAD);
        }
        setSource(x, 2, NUM, 5);
        due("kinds(2, 0)", x.kinds(2, 0), 1);
        due("kinds(2, 1)", x.kinds(2, 1), 0);
        due("kinds(0, 0)", x.kinds(0, 0), 0);
        due("kinds(4, 0)", x.kinds(4, 0), BAD);
        due("kinds(-1, 0)", x.kinds(-1, 0), BAD);
        x = new TemplateShop();
        makeLarge(x);
        due("kinds of a large one", x.kinds(3, 0), LARGE);
        due("kinds(3, 9) of a large one", x.kinds(3, 9), BAD);
    }

    private static void promise10() {
        promise = "promise 10, depth";
        TemplateShop x = new TemplateShop();
        concept(x, 0, 1, SAY, 0, SAY, 0, HOLE, 0);
        setSource(x, 0, NUM, 1);
        due("depth", x.depth(0), 1);
        setSource(x, 0, ADD, 0, NUM, 1, NUM, 2);
        due("depth", x.depth(0), 2);
        setSource(x, 0, IF, 0, NUM, 1, ADD, 0, SAY, 0, NUM, 1, NUM, 2, SAY, 0, NUM, 3);
        due("depth in the middle", x.depth(0), 4);
        setSource(x, 0, ADD, 0, SAY, 0, NUM, 1, USE, 0, USE, 0, NUM, 3);
        due("depth with USEs", x.depth(0), 6);
        due("depth(1)", x.depth(1), 0);
        due("depth(4)", x.depth(4), BAD);
        due("depth(-1)", x.depth(-1), BAD);
        x = new TemplateShop();
        makeLarge(x);
        due("depth of a large one", x.depth(3), LARGE);
    }

    private static void promise11() {
        promise = "promise 11, at";
        TemplateShop x = new TemplateShop();
        setSource(x, 0, IF, 99, LESS, -1, SUB, 5, NUM, MIN, NUM, MAX, MUL, 3, NUM, -1, VAR, 9,
            LET, 8, SAY, 77, NUM, 0, ADD, 7, VAR, 8, VAR, 0, NUM, 6);
        tokensAre(x, 0, IF, 0, LESS, 0, SUB, 0, NUM, MIN, NUM, MAX, MUL, 0, NUM, -1, VAR, 9,
            LET, 8, SAY, 0, NUM, 0, ADD, 0, VAR, 8, VAR, 0, NUM, 6);
        due("at(0, -1)", x.at(0, -1), NONE);
        due("at(0, MIN)", x.at(0, MIN), NONE);
        due("at(0, MAX)", x.at(0, MAX), NONE);
        due("at(1, 0)", x.at(1, 0), NONE);
        due("at(-1, 0)", x.at(-1, 0), NONE);
        due("at(4, 0)", x.at(4, 0), NONE);
        x = new TemplateShop();
        makeLarge(x);
        due("at of a large one", x.at(3, 0), NONE);
        expansions();
    }

    private static void expansions() {
        TemplateShop x = new TemplateShop();
        concept(x, 0, 2, SUB, 0, HOLE, 1, HOLE, 0);
        concept(x, 1, 1, LET, -1, OWN, 0, ADD, 0, VAR, -2, USE, 3, VAR, -1, HOLE, 0);
        concept(x, 2, 1, ADD, 0, HOLE, 0, HOLE, 0);
        setSource(x, 0, USE, 0, NUM, 1, NUM, 2);
        tokensAre(x, 0, SUB, 0, NUM, 2, NUM, 1);
        setSource(x, 0, USE + 1, -6, VAR, 4);
        tokensAre(x, 0, LET, 100, NUM, -6, ADD, 0, VAR, 101, SUB, 0, VAR, 4, VAR, 100);
        setSource(x, 0, USE + 2, 0, USE + 1, MAX, NUM, 4);
        tokensAre(x, 0, ADD, 0,
            LET, 102, NUM, MAX, ADD, 0, VAR, 103, SUB, 0, NUM, 4, VAR, 102,
            LET, 106, NUM, MAX, ADD, 0, VAR, 107, SUB, 0, NUM, 4, VAR, 106);
        concept(x, 3, 1, LET, -2, HOLE, 0, USE + 2, 0, VAR, -2);
        setSource(x, 1, ADD, 0, USE + 3, 0, USE + 3, 0, NUM, 1, VAR, 3);
        tokensAre(x, 1, ADD, 0,
            LET, 101, LET, 103, NUM, 1, ADD, 0, VAR, 103, VAR, 103, ADD, 0, VAR, 101, VAR, 101,
            VAR, 3);
        concept(x, 4, 0, ADD, 0, USE + 1, 5, OWN, 0, OWN, 0);
        setSource(x, 1, USE + 4, 8);
        tokensAre(x, 1, ADD, 0, LET, 102, NUM, 5, ADD, 0, VAR, 103, SUB, 0, NUM, 8, VAR, 102,
            NUM, 8);
    }

    private static void promise12() {
        promise = "promise 12, origin";
        TemplateShop x = new TemplateShop();
        concept(x, 0, 2, SUB, 0, HOLE, 1, HOLE, 0);
        concept(x, 1, 1, ADD, 0, USE, 0, OWN, 0, HOLE, 0, NUM, 3);
        setSource(x, 1, MUL, 0, NUM, 1, USE + 1, 0, USE, 0, VAR, 1, SAY, 0, VAR, 2);
        tokensAre(x, 1, MUL, 0, NUM, 1, ADD, 0, SUB, 0, SUB, 0, SAY, 0, VAR, 2, VAR, 1, NUM, 0,
            NUM, 3);
        originsAre(x, 1, 0, 1, 2, 2, 3, 5, 6, 4, 2, 2);
        noTokenAnswersBad(x, "origin");
    }

    private static int ask(TemplateShop x, String what, int s, int k) {
        return what.equals("origin") ? x.origin(s, k)
            : what.equals("parent") ? x.parent(s, k) : x.span(s, k);
    }

    /** Source 1 has tokens, source 0 none. */
    private static void noTokenAnswersBad(TemplateShop x, String what) {
        due(what + "(1, -1)", ask(x, what, 1, -1), BAD);
        due(what + "(1, MIN)", ask(x, what, 1, MIN), BAD);
        due(what + "(1, MAX)", ask(x, what, 1, MAX), BAD);
        due(what + "(0, 0)", ask(x, what, 0, 0), BAD);
        due(what + "(-1, 0)", ask(x, what, -1, 0), BAD);
        due(what + "(4, 0)", ask(x, what, 4, 0), BAD);
        TemplateShop y = new TemplateShop();
        makeLarge(y);
        due(what + " of a large one", ask(y, what, 3, 0), BAD);
    }

    private static void promises13And14() {
        promise = "promises 13 and 14, parent and span";
        TemplateShop x = new TemplateShop();
        concept(x, 0, 2, IF, 0, HOLE, 1, SAY, 0, HOLE, 0, HOLE, 0);
        setSource(x, 1, LET, 1, USE, 0, ADD, 0, NUM, 1, NUM, 2, NUM, 3, VAR, 1);
        tokensAre(x, 1, LET, 1, IF, 0, NUM, 3, SAY, 0, ADD, 0, NUM, 1, NUM, 2, ADD, 0, NUM, 1,
            NUM, 2, VAR, 1);
        parentsAre(x, 1, -1, 0, 1, 1, 3, 4, 4, 1, 7, 7, 0);
        spansAre(x, 1, 11, 9, 1, 4, 3, 1, 1, 3, 1, 1, 1);
        noTokenAnswersBad(x, "parent");
        noTokenAnswersBad(x, "span");
        setSource(x, 1, NUM, 1);
        parentsAre(x, 1, -1);
        spansAre(x, 1, 1);
    }

    private static void promise15() {
        promise = "promise 15, run";
        TemplateShop x = new TemplateShop();
        makeLarge(x);
        setSource(x, 0, SAY, 0, VAR, 0);
        due("run", x.run(0, 4, 0, 0), OK);
        for (int s : new int[] {1, 4, -1, MIN, MAX}) {
            due("run(" + s + ")", x.run(s, 9, 9, 9), BAD);
            due("result after BAD", x.result(), 4);
            due("says after BAD", x.says(), 1);
            due("said after BAD", x.said(0), 4);
        }
        due("run of a large one", x.run(3, 1, 1, 1), LARGE);
        due("result after LARGE", x.result(), 0);
        due("says after LARGE", x.says(), 0);
        due("said after LARGE", x.said(0), 0);
        due("run(4)", x.run(4, 1, 1, 1), BAD);
        due("result after LARGE and BAD", x.result(), 0);
        due("run", x.run(0, -4, 0, 0), OK);
        due("source made empty", x.source(0), OK);
        due("result of a source that is no more", x.result(), -4);
        due("says of a source that is no more", x.says(), 1);
    }

    private static void promise16() {
        promise = "promise 16, result";
        resultIs(42, NUM, 42);
        resultIs(MIN, ADD, 0, NUM, MAX, NUM, 1);
        resultIs(MAX, SUB, 0, NUM, MIN, NUM, 1);
        resultIs(-3, SUB, 0, NUM, 4, NUM, 7);
        resultIs(1410065408, MUL, 0, NUM, 100000, NUM, 100000);
        resultIs(1, LESS, 0, NUM, MIN, NUM, MAX);
        resultIs(0, LESS, 0, NUM, MAX, NUM, MIN);
        resultIs(0, LESS, 0, NUM, 3, NUM, 3);
        resultIs(1, LESS, 0, NUM, 2, NUM, 3);
        resultIs(5, VAR, 0);
        resultIs(6, VAR, 1);
        resultIs(7, VAR, 2);
        resultIs(0, VAR, 3);
        resultIs(0, VAR, 9);
        resultIs(11, IF, 0, NUM, -1, NUM, 11, NUM, 12);
        resultIs(12, IF, 0, NUM, 0, NUM, 11, NUM, 12);
        resultIs(11, IF, 0, NUM, MIN, NUM, 11, NUM, 12);
        resultIs(18, LET, 0, NUM, 9, ADD, 0, VAR, 0, VAR, 0);
        resultIs(10, LET, 0, ADD, 0, VAR, 0, VAR, 0, VAR, 0);
        resultIs(2, LET, 0, NUM, 1, LET, 0, NUM, 2, VAR, 0);
        resultIs(1, LET, 0, NUM, 1, LET, 1, NUM, 2, VAR, 0);
        resultIs(1, LET, 0, NUM, 1, LET, 0, VAR, 0, VAR, 0);
        resultIs(105, ADD, 0, LET, 0, NUM, 100, VAR, 0, VAR, 0);
        resultIs(5, ADD, 0, LET, 0, NUM, 0, VAR, 0, VAR, 0);
        resultIs(3, LET, 0, NUM, 1, ADD, 0, LET, 0, NUM, 2, VAR, 0, VAR, 0);
        resultIs(8, IF, 0, LET, 4, NUM, 0, VAR, 4, NUM, 7, ADD, 0, NUM, 8, VAR, 4);
        resultIs(6, SAY, 0, SAY, 0, VAR, 1);
        captures();
    }

    private static void captures() {
        TemplateShop x = new TemplateShop();
        concept(x, 0, 1, LET, 0, NUM, 100, ADD, 0, VAR, 0, HOLE, 0);
        concept(x, 1, 1, LET, -1, NUM, 100, ADD, 0, VAR, -1, HOLE, 0);
        concept(x, 2, 0, VAR, -1);
        setSource(x, 0, USE, 0, VAR, 0);
        setSource(x, 1, USE + 1, 0, VAR, 0);
        setSource(x, 2, USE + 1, 0, USE + 2, 0);
        due("run", x.run(0, 1, 2, 3), OK);
        due("result with a variable that is caught", x.result(), 200);
        due("run", x.run(1, 1, 2, 3), OK);
        due("result with a fresh variable", x.result(), 101);
        due("run", x.run(2, 1, 2, 3), OK);
        due("result with an unbound fresh variable", x.result(), 100);
    }

    private static void promises17And18() {
        promise = "promises 17 and 18, says and said";
        TemplateShop x = new TemplateShop();
        setSource(x, 0, ADD, 0, SAY, 0, NUM, 1, SAY, 0, SUB, 0, SAY, 0, NUM, 2, SAY, 0, NUM, 3);
        saysAre(x, 0, 1, 2, 3, -1);
        setSource(x, 0, LET, 0, SAY, 0, NUM, 8, SAY, 0, VAR, 0);
        saysAre(x, 0, 8, 8);
        setSource(x, 0, IF, 0, SAY, 0, NUM, 0, SAY, 0, NUM, 1, SAY, 0, NUM, 2);
        saysAre(x, 0, 0, 2);
        setSource(x, 0, IF, 0, SAY, 0, NUM, 5, SAY, 0, NUM, 1, SAY, 0, NUM, 2);
        saysAre(x, 0, 5, 1);
        setSource(x, 0, NUM, 1);
        saysAre(x, 0);
        due("said(MIN)", x.said(MIN), 0);
        due("said(MAX)", x.said(MAX), 0);
        manySays();
    }

    private static void saysAre(TemplateShop x, int s, int... want) {
        due("run", x.run(s, 1, 2, 3), OK);
        due("says", x.says(), want.length);
        for (int k = 0; k < want.length; k++) {
            due("said(" + k + ")", x.said(k), want[k]);
        }
        due("said behind the last", x.said(want.length), 0);
        due("said(-1)", x.said(-1), 0);
    }

    private static void manySays() {
        TemplateShop x = new TemplateShop();
        concept(x, 0, 2, ADD, 0, HOLE, 0, HOLE, 1);
        setSource(x, 0, USE, 0, SAY, 0, NUM, 1, USE, 0, SAY, 0, NUM, 2, SAY, 0, NUM, 3);
        saysAre(x, 0, 1, 2, 3);
        concept(x, 1, 1, SAY, 0, SAY, 0, SAY, 0, SAY, 0, SAY, 0, SAY, 0, SAY, 0, HOLE, 0);
        setSource(x, 1, USE + 1, 0, USE + 1, 0, USE + 1, 0, VAR, 0);
        due("run", x.run(1, 6, 0, 0), OK);
        due("says all of them", x.says(), 21);
        for (int k = 0; k < 20; k++) {
            due("said(" + k + ")", x.said(k), 6);
        }
        due("said(20)", x.said(20), 0);
        due("said(21)", x.said(21), 0);
        setSource(x, 1, USE + 1, 0, USE + 1, 0, SAY, 0, SAY, 0, SAY, 0, SAY, 0, SAY, 0, SAY, 0,
            ADD, 0, SAY, 0, NUM, 4, NUM, 5);
        due("run", x.run(1, 6, 0, 0), OK);
        due("says", x.says(), 21);
        due("said(0)", x.said(0), 4);
        due("said(19)", x.said(19), 9);
        due("said(20)", x.said(20), 0);
        setSource(x, 2, SAY, 0, NUM, 7);
        saysAre(x, 2, 7);
        due("said(5) of an earlier run", x.said(5), 0);
    }

    private static void promise19() {
        promise = "promise 19, order and limits";
        TemplateShop x = new TemplateShop();
        repeat(x, 24, ADD, 0);
        due("token, BAD before FULL", x.token(11, 0), BAD);
        due("token, BAD before FULL", x.token(VAR, 10), BAD);
        due("token, BAD before FULL", x.token(HOLE, 3), BAD);
        due("token, FULL", x.token(VAR, 9), FULL);
        due("define, BAD before SHAPE", x.define(4), BAD);
        due("source, BAD before SHAPE", x.source(4), BAD);
        due("the draft stayed", x.token(VAR, 9), FULL);
        due("define", x.define(0), SHAPE);
        due("the draft is empty after SHAPE", x.token(ADD, 0), 1);
        due("source", x.source(0), SHAPE);
        due("the draft is empty after SHAPE", x.token(NUM, 0), 1);
        due("define", x.define(0), 0);
        for (int c = 1; c < 6; c++) {
            concept(x, c, 0, USE + c - 1, 0);
        }
        due("define, BAD before FULL", x.define(-1), BAD);
        due("define, FULL before SHAPE", x.define(0), FULL);
        due("place", x.place(), -1);
        setSource(x, 0, USE + 5, 0);
        due("uses", x.uses(0), 6);
    }

    private static void mostTokensAndUses() {
        promise = "LARGE";
        TemplateShop x = new TemplateShop();
        makeLarge(x);
        setSource(x, 0, USE + 3, 0, USE + 2, 0, USE + 2, 0, USE + 2, 0, USE + 2, 0, USE, 0,
            USE, 0, USE, 0, USE, 0, NUM, 5);
        due("uses", x.uses(0), 2000);
        tokensAre(x, 0, NUM, 5);
        setSource(x, 1, USE + 3, 0, USE + 2, 0, USE + 2, 0, USE + 2, 0, USE + 2, 0, USE, 0,
            USE, 0, USE, 0, USE, 0, USE, 0, NUM, 5);
        due("uses", x.uses(1), LARGE);
        due("size", x.size(1), LARGE);
        concept(x, 4, 0, VAR, -2);
        setSource(x, 0, USE + 3, 0, USE + 2, 0, USE + 2, 0, USE + 2, 0, USE + 2, 0, USE, 0,
            USE, 0, USE, 0, USE + 4, 0);
        tokensAre(x, 0, VAR, 4099);
        x = new TemplateShop();
        concept(x, 0, 1, ADD, 0, HOLE, 0, HOLE, 0);
        concept(x, 1, 1, USE, 0, USE, 0, USE, 0, HOLE, 0);
        concept(x, 2, 1, USE + 1, 0, USE, 0, USE, 0, HOLE, 0);
        concept(x, 3, 1, USE + 1, 0, USE + 1, 0, HOLE, 0);
        concept(x, 4, 1, USE + 2, 0, USE + 1, 0, HOLE, 0);
        int[] tokens = {SAY, 0, ADD, 0, USE, 0, USE + 4, 0, VAR, 0, ADD, 0, USE + 4, 0, VAR, 0,
            ADD, 0, USE, 0, USE + 3, 0, VAR, 0, ADD, 0, USE + 3, 0, VAR, 0,
            ADD, 0, USE + 2, 0, VAR, 0, USE + 1, 0, VAR, 0};
        setSource(x, 0, tokens);
        due("size", x.size(0), 2000);
        due("at the last", x.at(0, 1999), VAR);
        due("at behind the last", x.at(0, 2000), NONE);
        due("span", x.span(0, 0), 2000);
        due("run", x.run(0, 3, 0, 0), OK);
        due("result", x.result(), 3 * 1000);
        due("token", x.token(SAY, 0), 1);
        for (int k = 0; k < tokens.length; k += 2) {
            x.token(tokens[k], tokens[k + 1]);
        }
        due("source", x.source(1), OK);
        due("size of one more", x.size(1), LARGE);
        due("at of one more", x.at(1, 0), NONE);
    }

    private static void longOnTheWay() {
        promise = "a text that is long on the way";
        TemplateShop x = new TemplateShop();
        concept(x, 0, 2, HOLE, 0);
        concept(x, 1, 1, IF, 0, HOLE, 0, IF, 0, HOLE, 0, HOLE, 0, HOLE, 0,
            IF, 0, HOLE, 0, HOLE, 0, HOLE, 0);
        concept(x, 2, 1, USE, 4, VAR, -1, USE + 1, 0, USE + 1, 0, USE + 1, 0, USE + 1, 0,
            USE + 1, 0, HOLE, 0);
        concept(x, 3, 1, USE + 2, 0, USE + 2, 0, USE + 2, 0, USE + 2, 0, HOLE, 0);
        setSource(x, 0, ADD, 0, USE + 3, 0, USE + 3, 0, USE + 1, 0, NUM, 1, USE + 2, 0, NUM, 2);
        tokensAre(x, 0, ADD, 0, VAR, 102, VAR, 106);
        due("uses", x.uses(0), 5);
        originsAre(x, 0, 0, 1, 5);
    }

    public static void main(String[] args) {
        promise1();
        promise2();
        promise3();
        promise4();
        promise5();
        promise6();
        promises7And8();
        promise9();
        promise10();
        promise11();
        promise12();
        promises13And14();
        promise15();
        promise16();
        promises17And18();
        promise19();
        mostTokensAndUses();
        longOnTheWay();
        System.out.println(checks + " answers, " + wrong + " of them wrong");
        if (wrong != 0) {
            System.exit(1);
        }
    }
}
