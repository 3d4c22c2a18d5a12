/**
 * A test of its own for each sentence of the document, from its first line to promise 19. Where
 * a sentence names a boundary: the last input that is still taken, the first that is not, and
 * what later calls answer where something stays as it was. Each test begins with the sentence,
 * has a new object, and keeps to the 512 calls that the document allows.
 */
public final class SentencesTest {
    private static final int OK = 0, SHAPE = -1, LARGE = -2, BAD = -3, FULL = -4;
    private static final long NONE = 100000000000L;
    private static final int NUM = 0, VAR = 1, ADD = 2, SUB = 3, MUL = 4, LESS = 5, IF = 6;
    private static final int LET = 7, SAY = 8, HOLE = 9, OWN = 10, USE = 16;
    private static final int MIN = Integer.MIN_VALUE, MAX = Integer.MAX_VALUE;
    private static final int MOST_CALLS = 512;

    private static TemplateShop shop;
    private static String sentence = "";
    private static int sentences = 0;
    private static int calls = 0;
    private static int answers = 0;
    private static int wrong = 0;

    // ---- calls, each with the answer that is due as its last argument ----

    private static void sentence(String text) {
        sentence = text;
        sentences++;
        newShop();
    }

    private static void newShop() {
        shop = new TemplateShop();
        calls = 0;
    }

    private static void due(long want, long got, String call, int... arguments) {
        answers++;
        calls++;
        StringBuilder told = new StringBuilder(call).append('(');
        for (int k = 0; k < arguments.length; k++) {
            told.append(k == 0 ? "" : ", ").append(arguments[k]);
        }
        if (got != want) {
            wrong++;
            System.out.println(sentence);
            System.out.println("    " + told + ") answered " + got + ", due is " + want);
        }
        if (calls == MOST_CALLS + 1) {
            wrong++;
            System.out.println(sentence + "\n    the test makes more than 512 calls");
        }
    }

    private static void token(int kind, int value, int want) {
        due(want, shop.token(kind, value), "token", kind, value);
    }

    private static void define(int holes, int want) {
        due(want, shop.define(holes), "define", holes);
    }

    private static void forget(int want) {
        due(want, shop.forget(), "forget");
    }

    private static void source(int s, int want) {
        due(want, shop.source(s), "source", s);
    }

    private static void place(int want) {
        due(want, shop.place(), "place");
    }

    private static void size(int s, int want) {
        due(want, shop.size(s), "size", s);
    }

    private static void uses(int s, int want) {
        due(want, shop.uses(s), "uses", s);
    }

    private static void kinds(int s, int kind, int want) {
        due(want, shop.kinds(s, kind), "kinds", s, kind);
    }

    private static void depth(int s, int want) {
        due(want, shop.depth(s), "depth", s);
    }

    private static void at(int s, int k, long want) {
        due(want, shop.at(s, k), "at", s, k);
    }

    private static void origin(int s, int k, int want) {
        due(want, shop.origin(s, k), "origin", s, k);
    }

    private static void parent(int s, int k, int want) {
        due(want, shop.parent(s, k), "parent", s, k);
    }

    private static void span(int s, int k, int want) {
        due(want, shop.span(s, k), "span", s, k);
    }

    private static void run(int s, int a, int b, int c, int want) {
        due(want, shop.run(s, a, b, c), "run", s, a, b, c);
    }

    private static void result(int want) {
        due(want, shop.result(), "result");
    }

    private static void says(int want) {
        due(want, shop.says(), "says");
    }

    private static void said(int k, int want) {
        due(want, shop.said(k), "said", k);
    }

    // ---- what many tests need ----

    /** Tokens as kind, value, kind, value .. into a draft that is empty. */
    private static void draft(int... tokens) {
        for (int k = 0; k < tokens.length; k += 2) {
            token(tokens[k], tokens[k + 1], k / 2 + 1);
        }
    }

    /** A draft of so many SAYs of NUM n: the given number of tokens in all. */
    private static void sayDraft(int count, int n) {
        for (int k = 1; k < count; k++) {
            token(SAY, 0, k);
        }
        token(NUM, n, count);
    }

    private static void concept(int number, int holes, int... tokens) {
        draft(tokens);
        define(holes, number);
    }

    private static void sourceOf(int s, int... tokens) {
        draft(tokens);
        source(s, OK);
    }

    private static void sixConcepts() {
        for (int c = 0; c < 6; c++) {
            concept(c, 0, NUM, c);
        }
    }

    private static void tokensAre(int s, int... tokens) {
        int count = tokens.length / 2;
        size(s, count);
        for (int k = 0; k < count; k++) {
            at(s, k, 32L * tokens[2 * k + 1] + tokens[2 * k]);
        }
        at(s, count, NONE);
    }

    /** A draft that is no template of so many HOLES: SHAPE, the place, and no concept more. */
    private static void noTemplate(int holes, int wrongToken, int next, int... tokens) {
        draft(tokens);
        define(holes, SHAPE);
        place(wrongToken);
        concept(next, 0, NUM, 0);
        forget(next);
    }

    private static void template(int holes, int next, int... tokens) {
        draft(tokens);
        define(holes, next);
        place(-1);
        forget(next);
    }

    /** A draft that is no source: SHAPE, the place, and source 3 is what it was. */
    private static void noSource(int wrongToken, int... tokens) {
        sourceOf(3, NUM, 3);
        draft(tokens);
        source(3, SHAPE);
        place(wrongToken);
        tokensAre(3, NUM, 3);
    }

    private static void givesResult(int want, int... tokens) {
        sourceOf(0, tokens);
        run(0, 5, 6, 7, OK);
        result(want);
    }

    /**
     * Concepts with which sources can be made that are LARGE by a hair. A USE of 0 is 1 USE
     * and 1 token (SAY), of 1 it is 11 of both, of 2 it is 111, of 3 it is 1111; a USE of 4
     * is one token, of 5 it is none but its operand.
     */
    private static void countedConcepts() {
        concept(0, 1, SAY, 0, HOLE, 0);
        for (int c = 1; c <= 3; c++) {
            token(SAY, 0, 1);
            for (int k = 2; k <= 11; k++) {
                token(USE + c - 1, 0, k);
            }
            token(HOLE, 0, 12);
            define(1, c);
        }
        concept(4, 0, VAR, -2);
        concept(5, 1, HOLE, 0);
    }

    /** A source of 2000 USEs and 2000 tokens, behind the tokens that are given. */
    private static void countedSource(int s, int... before) {
        draft(before);
        int count = before.length / 2;
        token(USE + 3, 0, ++count);
        for (int k = 0; k < 7; k++) {
            token(USE + 2, 0, ++count);
        }
        for (int k = 0; k < 10; k++) {
            token(USE + 1, 0, ++count);
        }
        token(USE, 0, ++count);
        token(USE + 4, 0, ++count);
        source(s, OK);
    }

    private static void isLarge(int s) {
        size(s, LARGE);
        uses(s, LARGE);
        for (int kind = 0; kind <= 8; kind++) {
            kinds(s, kind, LARGE);
        }
        depth(s, LARGE);
        for (int k : new int[] {-1, 0, 1, 1999, 2000}) {
            at(s, k, NONE);
            origin(s, k, BAD);
            parent(s, k, BAD);
            span(s, k, BAD);
        }
        run(s, 1, 2, 3, LARGE);
    }

    // ---- what it is ----

    private static void whatItIs() {
        sentence("concepts with templates, in which they use earlier concepts; sources made of "
            + "them become long programs of plain tokens, which are asked about, traced back "
            + "and run");
        concept(0, 1, ADD, 0, HOLE, 0, HOLE, 0);
        concept(1, 1, USE, 0, USE, 0, USE, 0, HOLE, 0);
        concept(2, 1, USE + 1, 0, USE + 1, 0, USE + 1, 0, HOLE, 0);
        sourceOf(0, SAY, 0, USE + 2, 0, VAR, 0);
        size(0, 1024);
        uses(0, 1 + (1 + 7) + 8 * (1 + 7) + 64 * (1 + 7));
        kinds(0, SAY, 1);
        kinds(0, ADD, 511);
        kinds(0, VAR, 512);
        depth(0, 11);
        at(0, 1, ADD);
        at(0, 1023, VAR);
        origin(0, 1021, 1);
        origin(0, 1022, 2);
        origin(0, 1023, 2);
        parent(0, 1, 0);
        span(0, 1, 1023);
        run(0, 3, 0, 0, OK);
        result(3 * 512);
        says(1);
        said(0, 3 * 512);
    }

    private static void atMost512Calls() {
        sentence("An object is used for at most 512 calls after it has been made.");
        concept(0, 1, ADD, 0, HOLE, 0, SAY, 0, HOLE, 0);
        sourceOf(2, USE, 0, VAR, 0);
        for (int a = 0; calls < 496; a++) {
            run(2, a, 0, 0, OK);
            result(2 * a);
        }
        forget(BAD);
        draft(SAY, 0, USE, 0, USE, 0, NUM, 9);
        source(0, OK);
        size(0, 11);
        uses(0, 3);
        origin(0, 1, 1);
        at(0, 10, 32L * 9);
        run(0, 1, 2, 3, OK);
        result(36);
        says(4);
        said(1, 9);
        said(3, 36);
        if (calls != MOST_CALLS - 1) {
            wrong++;
            System.out.println(sentence + "\n    the test made " + calls + " calls, not 511");
        }
        said(2, 18);
    }

    // ---- terms: tokens ----

    private static void kindsOfTokens() {
        sentence("TOKENS: 0 NUM .. 10 OWN, 16 .. 21 USE of concept 0 .. 5.");
        token(0, 0, 1);
        token(-1, 0, BAD);
        token(10, 0, 2);
        token(11, 0, BAD);
        token(15, 0, BAD);
        token(16, 0, 3);
        token(21, 0, 4);
        token(22, 0, BAD);
        token(MIN, 0, BAD);
        token(MAX, 0, BAD);
        token(5, 0, 5);
    }

    private static void prefixOrder() {
        sentence("TOKENS (kind, value) are written in prefix order, each followed by its "
            + "OPERANDS");
        int[] tokens = {SUB, 0, MUL, 0, VAR, 0, NUM, 3, IF, 0, LESS, 0, NUM, 1, VAR, 1,
            SAY, 0, VAR, 2, NUM, 4};
        sourceOf(0, tokens);
        tokensAre(0, tokens);
        int[] parents = {-1, 0, 1, 1, 0, 4, 5, 5, 4, 8, 4};
        int[] spans = {11, 3, 1, 1, 7, 3, 1, 1, 2, 1, 1};
        for (int k = 0; k < parents.length; k++) {
            parent(0, k, parents[k]);
            span(0, k, spans[k]);
        }
        run(0, 10, 2, 7, OK);
        result(10 * 3 - 7);
        run(0, 10, 1, 7, OK);
        result(10 * 3 - 4);
    }

    private static void numbersOfNum() {
        sentence("0 NUM n (any int)");
        sourceOf(0, ADD, 0, NUM, MIN, NUM, MAX);
        tokensAre(0, ADD, 0, NUM, MIN, NUM, MAX);
        concept(0, 0, SUB, 0, NUM, MIN, NUM, MAX);
        sourceOf(1, USE, 0);
        tokensAre(1, SUB, 0, NUM, MIN, NUM, MAX);
        givesResult(MIN, NUM, MIN);
        givesResult(MAX, NUM, MAX);
    }

    private static void numbersOfUse() {
        sentence("USE of concept 0 .. 5, with a number n (any int)");
        concept(0, 0, OWN, 0);
        concept(1, 0, ADD, 0, USE, MIN, USE, MAX);
        sourceOf(0, IF, 0, USE, MIN, USE, MAX, USE, -1);
        tokensAre(0, IF, 0, NUM, MIN, NUM, MAX, NUM, -1);
        sourceOf(1, USE + 1, 5);
        tokensAre(1, ADD, 0, NUM, MIN, NUM, MAX);
    }

    private static void operandsOfTokens() {
        sentence("2 ADD, 3 SUB, 4 MUL, 5 LESS (two operands) 6 IF (three) "
            + "7 LET v (two) 8 SAY (one)");
        int[] operands = {0, 0, 2, 2, 2, 2, 3, 2, 1};
        for (int kind = 0; kind <= 8; kind++) {
            for (int given = 0; given <= 4; given++) {
                token(kind, 0, 1);
                for (int k = 0; k < given; k++) {
                    token(NUM, k, k + 2);
                }
                boolean fits = given == operands[kind];
                source(0, fits ? OK : SHAPE);
                place(fits ? -1 : given < operands[kind] ? given + 1 : operands[kind] + 1);
            }
        }
    }

    private static void operandsOfUse() {
        sentence("USE: as many operands as the concept has HOLES.");
        for (int holes = 0; holes <= 3; holes++) {
            concept(holes, holes, NUM, 0);
        }
        for (int holes = 0; holes <= 3; holes++) {
            for (int given = 0; given <= 4; given++) {
                token(USE + holes, 0, 1);
                for (int k = 0; k < given; k++) {
                    token(VAR, k, k + 2);
                }
                boolean fits = given == holes;
                source(0, fits ? OK : SHAPE);
                place(fits ? -1 : given < holes ? given + 1 : holes + 1);
            }
        }
    }

    private static void operandsOfUseInTemplates() {
        sentence("USE: as many operands as the concept has HOLES (in a template).");
        for (int holes = 0; holes <= 3; holes++) {
            concept(holes, holes, NUM, 0);
        }
        template(0, 4, USE, 0);
        noTemplate(0, 1, 4, USE, 0, NUM, 1);
        noTemplate(1, 1, 4, USE + 1, 0);
        template(1, 4, USE + 1, 0, HOLE, 0);
        noTemplate(1, 2, 4, USE + 1, 0, HOLE, 0, HOLE, 0);
        noTemplate(2, 3, 4, USE + 3, 0, HOLE, 0, HOLE, 1);
        template(3, 4, USE + 3, 0, HOLE, 0, HOLE, 1, HOLE, 2);
        noTemplate(3, 4, 4, USE + 3, 0, HOLE, 0, HOLE, 1, HOLE, 2, HOLE, 0);
    }

    private static void variablesInSources() {
        sentence("v is 0..9 (in sources).");
        sourceOf(0, VAR, 0);
        sourceOf(0, VAR, 9);
        sourceOf(0, LET, 0, NUM, 1, NUM, 2);
        sourceOf(0, LET, 9, NUM, 1, NUM, 2);
        noSource(0, VAR, -1);
        noSource(0, VAR, -2);
        noSource(0, LET, -1, NUM, 1, NUM, 2);
        noSource(0, LET, -2, NUM, 1, NUM, 2);
        token(VAR, 10, BAD);
        token(LET, 10, BAD);
    }

    private static void variablesInTemplates() {
        sentence("v is .. in templates also -1 or -2.");
        template(0, 0, VAR, -2);
        template(0, 0, VAR, -1);
        template(0, 0, VAR, 0);
        template(0, 0, VAR, 9);
        template(0, 0, LET, -2, NUM, 1, NUM, 2);
        template(0, 0, LET, -1, NUM, 1, NUM, 2);
        template(0, 0, LET, 0, NUM, 1, NUM, 2);
        template(0, 0, LET, 9, NUM, 1, NUM, 2);
        token(VAR, -3, BAD);
        token(LET, -3, BAD);
        token(VAR, 10, BAD);
        token(LET, 10, BAD);
    }

    private static void holesAndOwnInTemplatesAlone() {
        sentence("HOLE, k 0..2, and OWN stand in templates alone.");
        template(3, 0, HOLE, 0);
        template(3, 0, HOLE, 2);
        template(0, 0, OWN, 0);
        noSource(0, HOLE, 0);
        noSource(0, HOLE, 2);
        noSource(0, OWN, 0);
        noSource(2, ADD, 0, NUM, 1, HOLE, 1);
        noSource(2, ADD, 0, NUM, 1, OWN, 1);
        concept(0, 1, HOLE, 0);
        noSource(1, USE, 0, HOLE, 0);
        noSource(1, USE, 0, OWN, 0);
        noSource(1, USE, 0, VAR, -1);
    }

    // ---- terms: concepts and sources ----

    private static void atMostSixConcepts() {
        sentence("CONCEPTS, numbered from 0, at most 6");
        sixConcepts();
        draft(NUM, 6);
        define(0, FULL);
        source(3, OK);
        tokensAre(3, NUM, 6);
        for (int c = 5; c >= 0; c--) {
            forget(c);
        }
        forget(BAD);
    }

    private static void numberOfHoles() {
        sentence("CONCEPTS .. have a number of HOLES, 0..3");
        draft(NUM, 1);
        define(-1, BAD);
        define(4, BAD);
        define(0, 0);
        concept(1, 3, NUM, 1);
    }

    private static void templateTokens() {
        sentence("TEMPLATE: one expression of at most 12 tokens");
        define(0, SHAPE);
        concept(0, 0, NUM, 1);
        sayDraft(12, 2);
        define(0, 1);
        sayDraft(13, 3);
        define(0, SHAPE);
        sayDraft(24, 4);
        define(0, SHAPE);
        sourceOf(0, ADD, 0, USE, 0, USE + 1, 0);
        tokensAre(0, ADD, 0, NUM, 1, SAY, 0, SAY, 0, SAY, 0, SAY, 0, SAY, 0, SAY, 0, SAY, 0,
            SAY, 0, SAY, 0, SAY, 0, SAY, 0, NUM, 2);
        forget(BAD);
        source(0, OK);
        forget(1);
        forget(0);
    }

    private static void templatesOfFullLength() {
        sentence("TEMPLATE: .. at most 12 tokens (six of them, and none runs into the next)");
        for (int c = 0; c < 6; c++) {
            sayDraft(12, c);
            define(0, c);
        }
        for (int c = 5; c >= 0; c--) {
            sourceOf(c % 4, USE + c, 0);
            size(c % 4, 12);
            kinds(c % 4, SAY, 11);
            at(c % 4, 11, 32L * c);
            at(c % 4, 12, NONE);
        }
    }

    private static void holesBelowTheNumber() {
        sentence("its HOLEs are below the number of HOLES");
        noTemplate(0, 0, 0, HOLE, 0);
        template(1, 0, HOLE, 0);
        noTemplate(1, 0, 0, HOLE, 1);
        template(2, 0, HOLE, 1);
        noTemplate(2, 0, 0, HOLE, 2);
        template(3, 0, HOLE, 2);
        noTemplate(2, 3, 0, IF, 0, HOLE, 0, HOLE, 1, HOLE, 2);
        template(3, 0, IF, 0, HOLE, 0, HOLE, 1, HOLE, 2);
    }

    private static void usesOfLesserConcepts() {
        sentence("its USEs are of concepts with a lesser number");
        for (int c = 0; c < 6; c++) {
            noTemplate(0, 0, c, USE + c, 0);
            noTemplate(0, 1, c, SAY, 0, USE + 5, 0);
            if (c == 0) {
                concept(0, 0, NUM, 1);
            } else {
                concept(c, 0, USE + c - 1, 0);
            }
        }
        sourceOf(0, USE + 5, 0);
        uses(0, 6);
        tokensAre(0, NUM, 1);
    }

    private static void numbersOfSources() {
        sentence("SOURCES 0..3");
        sourceOf(0, NUM, 10);
        sourceOf(3, NUM, 13);
        draft(NUM, 14);
        source(-1, BAD);
        source(4, BAD);
        tokensAre(0, NUM, 10);
        size(1, 0);
        size(2, 0);
        tokensAre(3, NUM, 13);
    }

    private static void sourceTokens() {
        sentence("SOURCES .. are empty or one expression of at most 24 tokens.");
        sourceOf(0, NUM, 1);
        tokensAre(0, NUM, 1);
        for (int s = 3; s >= 0; s--) {
            sayDraft(24, s);
            token(NUM, 9, FULL);
            source(s, OK);
        }
        for (int s = 0; s <= 3; s++) {
            size(s, 24);
            kinds(s, SAY, 23);
            at(s, 23, 32L * s);
            at(s, 24, NONE);
        }
        source(2, OK);
        size(2, 0);
        size(1, 24);
        size(3, 24);
    }

    // ---- terms: expansion ----

    private static void asLongAsThereIsAUse() {
        sentence("as long as there is a USE, the first one .. is REPLACED");
        concept(0, 2, LESS, 0, HOLE, 1, OWN, 0);
        concept(1, 1, USE, 5, HOLE, 0, USE, 6, VAR, -1, HOLE, 0);
        concept(2, 0, LET, -2, USE + 1, 7, OWN, 0, USE + 1, 8, VAR, -2);
        sourceOf(0, USE, 1, USE + 2, 2, USE + 2, 3);
        uses(0, 1 + (1 + 2 * 3));
        tokensAre(0, LESS, 0,
            LET, 103, LESS, 0, LESS, 0, NUM, 3, NUM, 6, NUM, 5,
            LESS, 0, LESS, 0, VAR, 103, NUM, 6, NUM, 5, NUM, 1);
        int[] found = {6, 1, 0, 0, 0, 5, 0, 1, 0};
        for (int kind = 0; kind <= 8; kind++) {
            kinds(0, kind, found[kind]);
        }
        sourceOf(1, SAY, 0, NUM, 16);
        tokensAre(1, SAY, 0, NUM, 16);
        uses(1, 0);
    }

    private static void firstUseIsReplaced() {
        sentence("the first one (in prefix order) is REPLACED by the template of its concept");
        concept(0, 0, VAR, -1);
        concept(1, 2, ADD, 0, HOLE, 1, ADD, 0, VAR, -1, HOLE, 0);
        sourceOf(0, ADD, 0, USE + 1, 0, USE, 0, USE, 0, USE, 0);
        tokensAre(0, ADD, 0, ADD, 0, VAR, 102, ADD, 0, VAR, 100, VAR, 104, VAR, 106);
        uses(0, 4);
    }

    private static void holeIsTheOperand() {
        sentence("HOLE k is the k-th operand of the USE (0 first), as it stands there, "
            + "at every place");
        concept(0, 3, IF, 0, HOLE, 2, HOLE, 1, HOLE, 0);
        concept(1, 1, ADD, 0, HOLE, 0, HOLE, 0);
        concept(2, 3, NUM, 5);
        sourceOf(0, USE, 0, SAY, 0, NUM, 1, ADD, 0, NUM, 2, NUM, 3, NUM, 4);
        tokensAre(0, IF, 0, NUM, 4, ADD, 0, NUM, 2, NUM, 3, SAY, 0, NUM, 1);
        sourceOf(1, USE + 1, 0, USE + 1, 0, SAY, 0, VAR, 9);
        tokensAre(1, ADD, 0, ADD, 0, SAY, 0, VAR, 9, SAY, 0, VAR, 9,
            ADD, 0, SAY, 0, VAR, 9, SAY, 0, VAR, 9);
        uses(1, 3);
        sourceOf(2, USE + 2, 0, USE + 1, 0, NUM, 1, USE + 1, 0, NUM, 2, USE + 1, 0, NUM, 3);
        tokensAre(2, NUM, 5);
        uses(2, 1);
    }

    private static void ownIsTheNumber() {
        sentence("OWN is NUM with the USE's number");
        concept(0, 1, ADD, 0, OWN, 0, HOLE, 0);
        concept(1, 0, USE, 7, OWN, 0);
        sourceOf(0, USE, MIN, USE, MAX, NUM, 0);
        tokensAre(0, ADD, 0, NUM, MIN, ADD, 0, NUM, MAX, NUM, 0);
        sourceOf(1, USE + 1, -9);
        tokensAre(1, ADD, 0, NUM, 7, NUM, -9);
        kinds(1, NUM, 2);
    }

    private static void freshVariables() {
        sentence("variable -1 - j is variable 100 + 2 i + j if this is the i-th (0 first) USE");
        concept(0, 0, LET, -1, LET, -2, NUM, -1, VAR, -2, VAR, -1);
        concept(1, 1, LET, -2, HOLE, 0, USE, -2);
        sourceOf(0, USE, -2);
        tokensAre(0, LET, 100, LET, 101, NUM, -1, VAR, 101, VAR, 100);
        sourceOf(1, ADD, 0, USE + 1, -1, VAR, 0, USE, -1);
        tokensAre(1, ADD, 0, LET, 101, VAR, 0, LET, 102, LET, 103, NUM, -1, VAR, 103, VAR, 102,
            LET, 104, LET, 105, NUM, -1, VAR, 105, VAR, 104);
        concept(2, 1, HOLE, 0);
        concept(3, 0, USE + 2, 0, VAR, -1);
        sourceOf(2, USE + 2, 0, USE + 3, 0);
        tokensAre(2, VAR, 102);
    }

    private static void largestVariable() {
        sentence("variable 100 + 2 i + j: with i 1999, the last USE of a source that is not LARGE");
        countedConcepts();
        countedSource(0);
        at(0, 1999, 32L * 4099 + VAR);
    }

    private static void mostUses() {
        sentence("A source is LARGE if more than 2000 USEs are REPLACED");
        countedConcepts();
        countedSource(0);
        size(0, 2000);
        uses(0, 2000);
        countedSource(1, USE + 5, 0);
        isLarge(1);
        uses(0, 2000);
    }

    private static void mostUsesOfFewTokens() {
        sentence("A source is LARGE if more than 2000 USEs are REPLACED (with one token at last)");
        concept(0, 1, HOLE, 0);
        for (int c = 1; c <= 3; c++) {
            for (int k = 1; k <= 11; k++) {
                token(USE + c - 1, 0, k);
            }
            token(HOLE, 0, 12);
            define(1, c);
        }
        int[] tokens = {USE + 3, 0, USE + 2, 0, USE + 2, 0, USE + 2, 0, USE + 2, 0, USE, 0,
            USE, 0, USE, 0, USE, 0, NUM, 8};
        sourceOf(0, tokens);
        uses(0, 2000);
        tokensAre(0, NUM, 8);
        draft(USE, 0);
        for (int k = 0; k < tokens.length; k += 2) {
            token(tokens[k], tokens[k + 1], k / 2 + 2);
        }
        source(1, OK);
        isLarge(1);
    }

    private static void mostTokens() {
        sentence("A source is LARGE if .. there are more than 2000 tokens at last.");
        countedConcepts();
        countedSource(0);
        size(0, 2000);
        at(0, 1999, 32L * 4099 + VAR);
        countedSource(1, SAY, 0);
        isLarge(1);
        size(0, 2000);
    }

    private static void mostTokensOfFewUses() {
        sentence("A source is LARGE if .. there are more than 2000 tokens at last (of few USEs).");
        concept(0, 1, IF, 0, HOLE, 0, HOLE, 0, HOLE, 0);
        concept(1, 1, USE, 0, USE, 0, USE, 0, HOLE, 0);
        concept(2, 1, USE, 0, USE, 0, HOLE, 0);
        // Thrice, k times over, makes 4, 13, 40, 121, 364, 1093 tokens of one.
        int[] tokens = {ADD, 0, USE + 1, 0, USE + 1, 0, NUM, 1, ADD, 0, USE + 1, 0, USE + 2, 0,
            NUM, 1, ADD, 0, USE + 1, 0, USE + 2, 0, NUM, 1, ADD, 0, USE + 1, 0, USE, 0, NUM, 1,
            ADD, 0, USE + 1, 0, NUM, 1, USE + 2, 0, NUM, 1};
        sourceOf(0, tokens);
        size(0, 5 + 1093 + 364 + 364 + 121 + 40 + 13);
        uses(0, 392 + 149 + 149 + 41 + 14 + 5);
        at(0, 1999, 32);
        at(0, 2000, NONE);
        token(SAY, 0, 1);
        for (int k = 0; k < tokens.length; k += 2) {
            token(tokens[k], tokens[k + 1], k / 2 + 2);
        }
        source(1, OK);
        isLarge(1);
    }

    private static void tokensAtLast() {
        sentence("more than 2000 tokens at last (not on the way)");
        concept(0, 1, NUM, 7);
        for (int c = 1; c <= 5; c++) {
            concept(c, 1, USE + c - 1, 0, IF, 0, HOLE, 0, IF, 0, HOLE, 0, HOLE, 0, HOLE, 0,
                IF, 0, HOLE, 0, HOLE, 0, HOLE, 0);
        }
        sourceOf(0, ADD, 0, USE + 5, 0, VAR, 0, USE + 5, 0, ADD, 0, VAR, 1, VAR, 2);
        uses(0, 12);
        tokensAre(0, ADD, 0, NUM, 7, NUM, 7);
        run(0, 1, 2, 3, OK);
        result(14);
    }

    private static void usesThatAreNotReplaced() {
        sentence("more than 2000 USEs are REPLACED (those in an operand without a HOLE are not)");
        countedConcepts();
        forget(5);
        concept(5, 2, HOLE, 1);
        sourceOf(0, USE + 5, 0, USE + 3, 0, USE + 3, 0, USE + 3, 0, NUM, 1, USE + 4, 0);
        uses(0, 2);
        tokensAre(0, VAR, 103);
        sourceOf(1, USE + 5, 0, USE + 4, 0, USE + 3, 0, USE + 3, 0, USE + 3, 0, NUM, 1);
        isLarge(1);
    }

    private static void tokensAreNumberedFrom0() {
        sentence("Tokens of an expansion are numbered from 0.");
        concept(0, 2, SUB, 0, HOLE, 0, HOLE, 1);
        sourceOf(0, USE, 0, NUM, 4, NUM, 5);
        at(0, -1, NONE);
        at(0, 0, SUB);
        at(0, 2, 32L * 5);
        at(0, 3, NONE);
    }

    private static void originsOfTokens() {
        sentence("The ORIGIN of a token: its number in the source .. the ORIGIN of the USE.");
        concept(0, 1, ADD, 0, OWN, 0, HOLE, 0);
        concept(1, 1, USE, 0, USE, 0, HOLE, 0);
        sourceOf(0, USE + 1, 0, SAY, 0, USE, 0, VAR, 1);
        tokensAre(0, ADD, 0, NUM, 0, ADD, 0, NUM, 0, SAY, 0, ADD, 0, NUM, 0, VAR, 1);
        int[] origins = {0, 0, 0, 0, 1, 2, 2, 3};
        for (int k = 0; k < origins.length; k++) {
            origin(0, k, origins[k]);
        }
        for (int s = 1; s <= 3; s++) {
            sourceOf(s, SUB, 0, USE, 0, NUM, 1, NUM, 2);
            origin(s, 0, 0);
            origin(s, 1, 1);
            origin(s, 2, 1);
            origin(s, 3, 2);
            origin(s, 4, 3);
        }
    }

    private static void originsOfMany() {
        sentence("The ORIGIN of a token (of the first and the last that come with a USE)");
        countedConcepts();
        countedSource(0);
        origin(0, 0, 0);
        origin(0, 1110, 0);
        origin(0, 1111, 1);
        origin(0, 1887, 7);
        origin(0, 1888, 8);
        origin(0, 1997, 17);
        origin(0, 1998, 18);
        origin(0, 1999, 19);
    }

    // ---- terms: runs ----

    private static void runWorksAnExpansionOut() {
        sentence("A RUN works an expansion out");
        givesResult(-8, NUM, -8);
        givesResult(11, ADD, 0, VAR, 0, VAR, 1);
        givesResult(-2, SUB, 0, VAR, 0, VAR, 2);
        givesResult(42, MUL, 0, VAR, 1, VAR, 2);
        givesResult(1, LESS, 0, VAR, 0, VAR, 1);
        concept(0, 2, SUB, 0, HOLE, 1, HOLE, 0);
        concept(1, 1, LET, -1, HOLE, 0, MUL, 0, VAR, -1, USE, 0, OWN, 0, VAR, -1);
        givesResult(2, USE, 0, VAR, 0, VAR, 2);
        givesResult(5 * (5 - 3), USE + 1, 3, VAR, 0);
        givesResult(10 * (10 - 4), USE + 1, 4, USE + 1, 3, VAR, 0);
    }

    private static void letGivesItsVariable() {
        sentence("LET: the first operand is worked out, then the second one, in which the "
            + "variable is that; it is worth what the second is.");
        givesResult(40, LET, 4, NUM, 20, ADD, 0, VAR, 4, VAR, 4);
        givesResult(9, LET, 4, NUM, 20, NUM, 9);
        givesResult(12, LET, 4, SAY, 0, NUM, 6, SAY, 0, ADD, 0, VAR, 4, SAY, 0, VAR, 4);
        says(3);
        said(0, 6);
        said(1, 6);
        said(2, 12);
        givesResult(9, LET, 4, SAY, 0, NUM, 6, NUM, 9);
        says(1);
        said(0, 6);
        givesResult(25, ADD, 0, LET, 0, NUM, 20, VAR, 0, VAR, 0);
        givesResult(206, LET, 0, LET, 1, NUM, 200, VAR, 1, ADD, 0, VAR, 0, VAR, 1);
    }

    private static void letOfAFreshVariable() {
        sentence("LET: .. in which the variable is that (each REPLACED USE has its own)");
        concept(0, 1, LET, -1, OWN, 0, ADD, 0, HOLE, 0, VAR, -1);
        concept(1, 1, LET, 0, OWN, 0, ADD, 0, HOLE, 0, VAR, 0);
        givesResult(100 + 10 + 5, USE, 100, USE, 10, VAR, 0);
        givesResult(100 + 10 + 10, USE + 1, 100, USE + 1, 10, VAR, 0);
    }

    private static void nearestLet() {
        sentence("VAR is what the nearest LET around it (as its second operand) .. gave it");
        givesResult(2, LET, 3, NUM, 1, LET, 3, NUM, 2, VAR, 3);
        givesResult(1, LET, 3, NUM, 1, LET, 4, NUM, 2, VAR, 3);
        givesResult(1, LET, 3, NUM, 1, LET, 3, VAR, 3, VAR, 3);
        givesResult(5, LET, 0, VAR, 0, VAR, 0);
        givesResult(10, LET, 0, ADD, 0, VAR, 0, VAR, 0, VAR, 0);
        givesResult(11, LET, 0, NUM, 1, LET, 0, ADD, 0, NUM, 10, VAR, 0, VAR, 0);
        givesResult(0, LET, 3, VAR, 3, VAR, 3);
        givesResult(0, LET, 0, NUM, 0, VAR, 0);
        givesResult(MIN, LET, 0, NUM, MIN, VAR, 0);
        givesResult(6, ADD, 0, LET, 0, NUM, 1, VAR, 0, VAR, 0);
        givesResult(6, ADD, 0, VAR, 0, LET, 0, NUM, 1, VAR, 0);
    }

    private static void letFarAround() {
        sentence("VAR is what the nearest LET around it .. gave it (however far around it is)");
        countedConcepts();
        draft(LET, 0, NUM, 4, USE + 3, 0);
        int count = 3;
        for (int k = 0; k < 7; k++) {
            token(USE + 2, 0, ++count);
        }
        for (int k = 0; k < 9; k++) {
            token(USE + 1, 0, ++count);
        }
        for (int k = 0; k < 4; k++) {
            token(USE, 0, ++count);
        }
        token(VAR, 0, ++count);
        source(0, OK);
        depth(0, 1 + 1111 + 777 + 99 + 4 + 1);
        run(0, 5, 6, 7, OK);
        result(4);
        says(1111 + 777 + 99 + 4);
    }

    private static void variablesWithoutLet() {
        sentence("without one, the run's a, b, c for variables 0, 1, 2, else 0");
        for (int v = 0; v <= 9; v++) {
            givesResult(v == 0 ? 5 : v == 1 ? 6 : v == 2 ? 7 : 0, VAR, v);
        }
        sourceOf(0, IF, 0, VAR, 2, VAR, 0, VAR, 1);
        run(0, MIN, MAX, 1, OK);
        result(MIN);
        run(0, MIN, MAX, 0, OK);
        result(MAX);
        concept(0, 0, ADD, 0, VAR, -1, VAR, -2);
        givesResult(0, USE, 1);
    }

    private static void ifNotZero() {
        sentence("IF: the second operand if the first is not 0, else the third");
        givesResult(3, IF, 0, NUM, 0, NUM, 2, NUM, 3);
        for (int n : new int[] {1, -1, MIN, MAX, 65536}) {
            givesResult(2, IF, 0, NUM, n, NUM, 2, NUM, 3);
        }
    }

    private static void otherIsNotWorkedOut() {
        sentence("the other is not worked out");
        givesResult(3, IF, 0, NUM, 0, SAY, 0, NUM, 2, NUM, 3);
        says(0);
        givesResult(3, IF, 0, NUM, 0, SAY, 0, NUM, 2, SAY, 0, NUM, 3);
        says(1);
        said(0, 3);
        givesResult(2, IF, 0, NUM, 1, NUM, 2, SAY, 0, NUM, 3);
        says(0);
        givesResult(2, IF, 0, SAY, 0, NUM, 9, SAY, 0, NUM, 2, SAY, 0, NUM, 3);
        says(2);
        said(0, 9);
        said(1, 2);
    }

    private static void sayIsItsOperand() {
        sentence("SAY: its operand, which is said.");
        givesResult(-5, SAY, 0, SUB, 0, NUM, 1, VAR, 1);
        says(1);
        said(0, -5);
        givesResult(0, SAY, 0, NUM, 0);
        says(1);
        said(0, 0);
        givesResult(6, ADD, 0, SAY, 0, ADD, 0, SAY, 0, NUM, 1, SAY, 0, NUM, 2, SAY, 0, NUM, 3);
        says(4);
        said(0, 1);
        said(1, 2);
        said(2, 3);
        said(3, 3);
        concept(0, 1, ADD, 0, HOLE, 0, HOLE, 0);
        givesResult(14, USE, 0, SAY, 0, VAR, 2);
        says(2);
        said(0, 7);
        said(1, 7);
    }

    private static void operandsFromTheFirstOn() {
        sentence("Operands are worked out from the first on");
        for (int kind : new int[] {ADD, SUB, MUL, LESS, LET}) {
            sourceOf(0, kind, 0, SAY, 0, NUM, 1, SAY, 0, NUM, 2);
            run(0, 0, 0, 0, OK);
            says(2);
            said(0, 1);
            said(1, 2);
        }
    }

    private static void wrapAround() {
        sentence("ADD, SUB, MUL wrap");
        givesResult(MAX, ADD, 0, NUM, MAX - 1, NUM, 1);
        givesResult(MIN, ADD, 0, NUM, MAX, NUM, 1);
        givesResult(MIN, ADD, 0, NUM, MIN + 1, NUM, -1);
        givesResult(MAX, ADD, 0, NUM, MIN, NUM, -1);
        givesResult(-2, ADD, 0, NUM, MAX, NUM, MAX);
        givesResult(MIN, SUB, 0, NUM, MIN + 1, NUM, 1);
        givesResult(MAX, SUB, 0, NUM, MIN, NUM, 1);
        givesResult(MIN, SUB, 0, NUM, 0, NUM, MIN);
        givesResult(-1, SUB, 0, NUM, MAX, NUM, MIN);
        givesResult(2147395600, MUL, 0, NUM, 46340, NUM, 46340);
        givesResult(-2147479015, MUL, 0, NUM, 46341, NUM, 46341);
        givesResult(0, MUL, 0, NUM, 65536, NUM, 65536);
        givesResult(MIN, MUL, 0, NUM, MIN, NUM, -1);
        givesResult(1, MUL, 0, NUM, MAX, NUM, MAX);
    }

    private static void lessIs1Or0() {
        sentence("LESS is 1 or 0.");
        givesResult(1, LESS, 0, NUM, 2, NUM, 3);
        givesResult(0, LESS, 0, NUM, 3, NUM, 3);
        givesResult(0, LESS, 0, NUM, 4, NUM, 3);
        givesResult(1, LESS, 0, NUM, -1, NUM, 0);
        givesResult(1, LESS, 0, NUM, MIN, NUM, MAX);
        givesResult(0, LESS, 0, NUM, MAX, NUM, MIN);
        givesResult(1, LESS, 0, NUM, MIN, NUM, MIN + 1);
        givesResult(0, LESS, 0, NUM, MIN, NUM, MIN);
    }

    // ---- promise 1 ----

    private static void newHasNoConcepts() {
        sentence("Promise 1: No concepts");
        forget(BAD);
        for (int c = 0; c < 6; c++) {
            draft(USE + c, 0);
            source(0, SHAPE);
            draft(USE + c, 0);
            define(0, SHAPE);
        }
        concept(0, 0, NUM, 1);
    }

    private static void newHasEmptySources() {
        sentence("Promise 1: sources empty");
        for (int s = 0; s <= 3; s++) {
            size(s, 0);
            run(s, 1, 2, 3, BAD);
        }
    }

    private static void newHasAnEmptyDraft() {
        sentence("Promise 1: an empty draft");
        source(0, OK);
        size(0, 0);
        newShop();
        define(0, SHAPE);
        newShop();
        token(NUM, 1, 1);
    }

    private static void newWasNotRun() {
        sentence("Promise 1: nothing was run.");
        result(0);
        says(0);
        said(0, 0);
        place(-1);
    }

    private static void newIsApartFromOthers() {
        sentence("Promise 1: a new object is new, whatever others hold");
        sixConcepts();
        sourceOf(0, SAY, 0, NUM, 1);
        run(0, 1, 2, 3, OK);
        draft(NUM, 1, NUM, 2);
        source(1, SHAPE);
        draft(NUM, 1, NUM, 2);
        newShop();
        size(0, 0);
        result(0);
        says(0);
        place(-1);
        forget(BAD);
        token(NUM, 1, 1);
    }

    // ---- promise 2 ----

    private static void tokenAppends() {
        sentence("Promise 2: Appends a token to the draft: how many it has.");
        token(IF, 0, 1);
        token(VAR, 0, 2);
        token(SAY, 0, 3);
        token(NUM, 7, 4);
        size(0, 0);
        forget(BAD);
        run(0, 1, 2, 3, BAD);
        token(LET, 3, 5);
        token(NUM, 8, 6);
        place(-1);
        token(VAR, 3, 7);
        source(0, OK);
        tokensAre(0, IF, 0, VAR, 0, SAY, 0, NUM, 7, LET, 3, NUM, 8, VAR, 3);
        token(USE, 0, 1);
    }

    private static void tokenOfNoKind() {
        sentence("Promise 2: BAD if kind is none of these");
        int count = 0;
        for (int kind = -20; kind <= 40; kind++) {
            boolean isKind = (kind >= 0 && kind <= 10) || (kind >= 16 && kind <= 21);
            count += isKind ? 1 : 0;
            token(kind, 0, isKind ? count : BAD);
        }
        for (int kind : new int[] {MIN, MIN + 16, MAX, 256, 256 + 16, 65536, 1 << 16 | 16}) {
            token(kind, 0, BAD);
        }
        token(NUM, 0, 18);
    }

    private static void tokenValueOutside(int kind, int least, int most) {
        newShop();
        token(kind, least - 1, BAD);
        token(kind, least, 1);
        token(kind, most + 1, BAD);
        token(kind, most, 2);
        token(kind, MIN, BAD);
        token(kind, MAX, BAD);
        token(kind, 256 + least, BAD);
        token(kind, 65536 + most, BAD);
        token(kind, least, 3);
    }

    private static void tokenOfAVariableOutside() {
        sentence("Promise 2: BAD if .. the value of a VAR, LET (-2..9) .. is outside");
        tokenValueOutside(VAR, -2, 9);
        tokenValueOutside(LET, -2, 9);
    }

    private static void tokenOfAHoleOutside() {
        sentence("Promise 2: BAD if .. the value of a .. HOLE (0..2) is outside");
        tokenValueOutside(HOLE, 0, 2);
    }

    private static void tokenOfAnyOtherValue() {
        sentence("Promise 2: BAD .. (the values of the other kinds are all taken)");
        int count = 0;
        for (int kind : new int[] {NUM, ADD, SUB, MUL, LESS, IF, SAY, OWN, USE, USE + 5}) {
            token(kind, MIN, ++count);
            token(kind, MAX, ++count);
        }
        newShop();
        sourceOf(0, IF, MAX, LESS, MIN, ADD, 1, NUM, 1, NUM, 2, SUB, -1, NUM, 3, NUM, 4,
            SAY, 10, NUM, 5, MUL, 3, NUM, 6, NUM, 7);
        tokensAre(0, IF, 0, LESS, 0, ADD, 0, NUM, 1, NUM, 2, SUB, 0, NUM, 3, NUM, 4,
            SAY, 0, NUM, 5, MUL, 0, NUM, 6, NUM, 7);
        concept(0, 0, OWN, 77);
        sourceOf(1, USE, 3);
        tokensAre(1, NUM, 3);
    }

    private static void tokenThatIsBadIsNotAppended() {
        sentence("Promise 2: BAD (the draft is what it was)");
        token(SAY, 0, 1);
        token(11, 5, BAD);
        token(VAR, 10, BAD);
        token(LET, -3, BAD);
        token(HOLE, 3, BAD);
        token(NUM, 6, 2);
        source(0, OK);
        tokensAre(0, SAY, 0, NUM, 6);
    }

    private static void tokenFull() {
        sentence("Promise 2: FULL with 24.");
        sayDraft(24, 5);
        token(NUM, 6, FULL);
        token(SAY, 0, FULL);
        token(USE + 5, 0, FULL);
        source(0, OK);
        size(0, 24);
        at(0, 22, SAY);
        at(0, 23, 32L * 5);
        token(NUM, 7, 1);
    }

    // ---- promise 3 ----

    private static void defineAnswersTheNumber() {
        sentence("Promise 3: becomes the template of the next concept, with so many HOLES: "
            + "its number");
        concept(0, 2, HOLE, 1);
        concept(1, 0, NUM, 4);
        draft(ADD, 0);
        define(1, SHAPE);
        concept(2, 3, USE, 0, HOLE, 2, USE + 1, 0);
        concept(3, 1, SAY, 0, HOLE, 0);
        sourceOf(0, USE + 3, 0, USE, 0, USE + 2, 0, NUM, 1, NUM, 2, NUM, 3, USE + 1, 0);
        tokensAre(0, SAY, 0, NUM, 4);
        forget(BAD);
        sourceOf(0, USE, 0, NUM, 5, NUM, 6);
        forget(3);
        concept(3, 0, NUM, 7);
        concept(4, 0, NUM, 8);
    }

    private static void defineEmptiesTheDraft() {
        sentence("Promise 3: The draft, which is empty then, becomes the template of the "
            + "next concept");
        concept(0, 0, NUM, 4);
        define(0, SHAPE);
        place(0);
        source(0, OK);
        size(0, 0);
        token(NUM, 5, 1);
        define(0, 1);
        sourceOf(0, SUB, 0, USE, 0, USE + 1, 0);
        tokensAre(0, SUB, 0, NUM, 4, NUM, 5);
    }

    private static void defineHolesOutside() {
        sentence("Promise 3: BAD (the draft stays) if holes is outside 0..3");
        draft(SAY, 0, NUM, 6);
        for (int holes : new int[] {-1, 4, MIN, MAX, 256, 65536}) {
            define(holes, BAD);
        }
        token(NUM, 7, 3);
        define(4, BAD);
        define(3, SHAPE);
        place(2);
        draft(SAY, 0, NUM, 6);
        define(-1, BAD);
        define(0, 0);
        draft(ADD, 0, HOLE, 0, HOLE, 2);
        define(4, BAD);
        define(3, 1);
        sourceOf(0, USE + 1, 0, USE, 0, NUM, 1, NUM, 2);
        tokensAre(0, ADD, 0, SAY, 0, NUM, 6, NUM, 2);
    }

    private static void defineFull() {
        sentence("Promise 3: FULL (the draft stays) with 6");
        sixConcepts();
        draft(SAY, 0, NUM, 6);
        define(0, FULL);
        define(3, FULL);
        source(0, OK);
        tokensAre(0, SAY, 0, NUM, 6);
        draft(ADD, 0, NUM, 8);
        define(0, FULL);
        token(NUM, 9, 3);
        forget(5);
        define(0, 5);
        sourceOf(1, USE + 5, 0);
        tokensAre(1, ADD, 0, NUM, 8, NUM, 9);
        sourceOf(2, USE + 4, 0);
        tokensAre(2, NUM, 4);
    }

    private static void defineShape() {
        sentence("Promise 3: SHAPE if it is no template.");
        concept(0, 1, HOLE, 0);
        noTemplate(0, 0, 1);
        noTemplate(0, 1, 1, SAY, 0);
        noTemplate(0, 1, 1, NUM, 1, NUM, 1);
        noTemplate(2, 0, 1, HOLE, 2);
        noTemplate(0, 0, 1, USE + 1, 0);
        noTemplate(0, 1, 1, USE, 0);
        sayDraft(13, 0);
        define(0, SHAPE);
        forget(0);
        forget(BAD);
    }

    // ---- promise 4 ----

    private static void forgetAnswersTheNumber() {
        sentence("Promise 4: The latest concept is no more: its number.");
        concept(0, 0, NUM, 10);
        concept(1, 1, SAY, 0, HOLE, 0);
        concept(2, 2, ADD, 0, HOLE, 0, HOLE, 1);
        sourceOf(0, USE, 0);
        forget(2);
        draft(USE + 2, 0, NUM, 1, NUM, 2);
        source(1, SHAPE);
        place(0);
        draft(USE + 2, 0, NUM, 1, NUM, 2);
        define(0, SHAPE);
        place(0);
        sourceOf(1, USE + 1, 0, NUM, 1);
        tokensAre(1, SAY, 0, NUM, 1);
        source(1, OK);
        forget(1);
        tokensAre(0, NUM, 10);
        concept(1, 0, NUM, 11);
        sourceOf(1, USE + 1, 0);
        tokensAre(1, NUM, 11);
    }

    private static void forgetOfNone() {
        sentence("Promise 4: BAD if there is none");
        forget(BAD);
        concept(0, 0, NUM, 1);
        forget(0);
        forget(BAD);
        concept(0, 0, NUM, 2);
        sourceOf(0, USE, 0);
        tokensAre(0, NUM, 2);
    }

    private static void forgetOfOneInASource() {
        sentence("Promise 4: BAD if .. a source has a USE of it.");
        concept(0, 0, NUM, 1);
        for (int s = 0; s <= 3; s++) {
            for (int k = 1; k < 24; k++) {
                token(SAY, 0, k);
            }
            token(USE, 0, 24);
            source(s, OK);
            forget(BAD);
            size(s, 24);
            draft(HOLE, 0);
            source(s, SHAPE);
            forget(BAD);
            source(s, OK);
        }
        sourceOf(1, ADD, 0, USE, 0, NUM, 1);
        forget(BAD);
        concept(1, 0, NUM, 2);
        forget(1);
        forget(BAD);
        sourceOf(1, ADD, 0, NUM, 16, NUM, 1);
        forget(0);
    }

    private static void forgetOfOneThatVanishes() {
        sentence("Promise 4: BAD if .. a source has a USE of it (also where it is never "
            + "REPLACED).");
        concept(0, 1, NUM, 1);
        concept(1, 0, NUM, 2);
        sourceOf(2, USE, 0, USE + 1, 0);
        uses(2, 1);
        forget(BAD);
        source(2, OK);
        forget(1);
    }

    private static void forgetOfOneThatIsNotInASource() {
        sentence("Promise 4: BAD if .. a source has a USE of it (a draft or a template does "
            + "not count).");
        concept(0, 0, NUM, 1);
        concept(1, 0, USE, 0);
        forget(1);
        sourceOf(0, USE, 0);
        concept(1, 0, USE, 0);
        draft(USE + 1, 0);
        forget(1);
        forget(BAD);
        source(1, SHAPE);
        place(0);
        source(0, OK);
        forget(0);
    }

    private static void forgetThatIsBadForgetsNothing() {
        sentence("Promise 4: BAD (the concept stays)");
        concept(0, 1, SAY, 0, HOLE, 0);
        sourceOf(0, USE, 0, NUM, 1);
        forget(BAD);
        tokensAre(0, SAY, 0, NUM, 1);
        sourceOf(1, USE, 0, NUM, 2);
        tokensAre(1, SAY, 0, NUM, 2);
        concept(1, 0, NUM, 1);
    }

    private static void forgottenAndDefinedAnew() {
        sentence("Promise 4: The latest concept is no more (what it was does not come back)");
        concept(0, 3, IF, 0, HOLE, 0, HOLE, 1, HOLE, 2);
        draft(USE, 4, NUM, 1);
        forget(0);
        source(0, SHAPE);
        place(0);
        concept(0, 1, ADD, 0, HOLE, 0, OWN, 0);
        sourceOf(0, USE, 4, NUM, 1);
        tokensAre(0, ADD, 0, NUM, 1, NUM, 4);
        draft(USE, 4, NUM, 1, NUM, 2, NUM, 3);
        source(0, SHAPE);
        place(2);
    }

    // ---- promise 5 ----

    private static void sourceTakesThePlaceOfAnother() {
        sentence("Promise 5: The draft .. becomes source s (in place of what it was).");
        sourceOf(2, ADD, 0, NUM, 1, SUB, 0, NUM, 2, NUM, 3);
        sourceOf(1, NUM, 4);
        sourceOf(2, SAY, 0, VAR, 5);
        tokensAre(2, SAY, 0, VAR, 5);
        sourceOf(2, MUL, 0, VAR, 1, ADD, 0, VAR, 2, VAR, 3);
        tokensAre(2, MUL, 0, VAR, 1, ADD, 0, VAR, 2, VAR, 3);
        tokensAre(1, NUM, 4);
        size(0, 0);
        size(3, 0);
    }

    private static void sourceEmptiesTheDraft() {
        sentence("Promise 5: The draft, which is empty then, becomes source s: OK.");
        sourceOf(0, NUM, 4);
        token(NUM, 5, 1);
        source(1, OK);
        define(0, SHAPE);
        place(0);
        tokensAre(0, NUM, 4);
        tokensAre(1, NUM, 5);
    }

    private static void sourceOfAnEmptyDraft() {
        sentence("Promise 5: With an empty draft it becomes empty: OK.");
        for (int s = 0; s <= 3; s++) {
            sourceOf(s, SAY, 0, NUM, s);
        }
        source(2, OK);
        source(2, OK);
        place(-1);
        size(2, 0);
        uses(2, 0);
        kinds(2, SAY, 0);
        depth(2, 0);
        at(2, 0, NONE);
        run(2, 1, 2, 3, BAD);
        tokensAre(1, SAY, 0, NUM, 1);
        tokensAre(3, SAY, 0, NUM, 3);
    }

    private static void sourceOutside() {
        sentence("Promise 5: BAD (the draft stays) if s is outside");
        draft(SAY, 0, NUM, 6);
        for (int s : new int[] {-1, 4, MIN, MAX, 256, 65536}) {
            source(s, BAD);
        }
        source(3, OK);
        tokensAre(3, SAY, 0, NUM, 6);
        source(4, BAD);
        size(0, 0);
        draft(NUM, 1, NUM, 2);
        source(-1, BAD);
        token(NUM, 3, 3);
        source(0, SHAPE);
        place(1);
    }

    private static void sourceShape() {
        sentence("Promise 5: SHAPE if it is no source");
        concept(0, 1, HOLE, 0);
        noSource(1, SAY, 0);
        noSource(1, NUM, 1, NUM, 1);
        noSource(0, HOLE, 0);
        noSource(0, OWN, 0);
        noSource(0, VAR, -1);
        noSource(0, LET, -2, NUM, 1, NUM, 2);
        noSource(0, USE + 1, 0);
        noSource(1, USE, 0);
        noSource(2, USE, 0, NUM, 1, NUM, 2);
    }

    private static void sourceKeepsWhatItWas() {
        sentence("Promise 5: SHAPE ..; it keeps what it was then.");
        draft(ADD, 0, NUM, 1);
        source(0, SHAPE);
        size(0, 0);
        run(0, 1, 2, 3, BAD);
        concept(0, 1, SAY, 0, HOLE, 0);
        sourceOf(0, USE, 0, SUB, 0, VAR, 0, VAR, 1);
        draft(MUL, 0, NUM, 3);
        source(0, SHAPE);
        tokensAre(0, SAY, 0, SUB, 0, VAR, 0, VAR, 1);
        uses(0, 1);
        origin(0, 3, 3);
        run(0, 9, 2, 0, OK);
        result(7);
        draft(NUM, 1, NUM, 1);
        source(1, SHAPE);
        size(1, 0);
    }

    // ---- promise 6 ----

    private static void placeBehindAWhole() {
        sentence("Promise 6: the first token that is behind a whole expression");
        noTemplate(0, 1, 0, NUM, 1, NUM, 2);
        noTemplate(0, 3, 0, ADD, 0, NUM, 1, NUM, 2, NUM, 3, NUM, 4);
        noSource(1, NUM, 1, NUM, 2);
        noSource(3, ADD, 0, NUM, 1, NUM, 2, NUM, 3, NUM, 4);
        noSource(1, NUM, 1, HOLE, 0);
        noSource(1, NUM, 1, VAR, -1);
        for (int k = 1; k < 23; k++) {
            token(SAY, 0, k);
        }
        token(NUM, 1, 23);
        token(NUM, 2, 24);
        source(0, SHAPE);
        place(23);
    }

    private static void placeOfNoPlace() {
        sentence("Promise 6: or has no place there (a HOLE, OWN, variable below 0, USE)");
        noTemplate(1, 1, 0, ADD, 0, HOLE, 1, NUM, 2);
        noTemplate(1, 2, 0, ADD, 0, HOLE, 0, HOLE, 1);
        noTemplate(1, 1, 0, ADD, 0, USE, 0, HOLE, 1);
        noSource(1, ADD, 0, HOLE, 0, OWN, 0);
        noSource(1, ADD, 0, OWN, 0, HOLE, 0);
        noSource(1, ADD, 0, VAR, -1, NUM, 1);
        noSource(1, ADD, 0, VAR, -2, NUM, 1);
        noSource(1, SAY, 0, LET, -1, NUM, 1, NUM, 1);
        noSource(1, SAY, 0, LET, -2, NUM, 1, NUM, 1);
        noSource(1, ADD, 0, USE, 0, USE + 1, 0);
        noSource(2, ADD, 0, NUM, 1, USE + 5, 0);
        noSource(1, SAY, 0, HOLE, 0, NUM, 1);
        for (int k = 1; k < 24; k++) {
            token(SAY, 0, k);
        }
        token(OWN, 0, 24);
        source(0, SHAPE);
        place(23);
    }

    private static void placeOfThe13th() {
        sentence("Promise 6: or the 13th of a template");
        sayDraft(13, 0);
        define(0, SHAPE);
        place(12);
        sayDraft(24, 0);
        define(0, SHAPE);
        place(12);
        for (int k = 1; k <= 13; k++) {
            token(SAY, 0, k);
        }
        define(0, SHAPE);
        place(12);
        for (int k = 1; k <= 11; k++) {
            token(SAY, 0, k);
        }
        token(HOLE, 0, 12);
        token(NUM, 0, 13);
        define(0, SHAPE);
        place(11);
        sayDraft(13, 0);
        source(0, OK);
        place(-1);
        sayDraft(12, 0);
        define(0, 0);
        place(-1);
    }

    private static void placeOfNone() {
        sentence("Promise 6: the number of tokens if there is none");
        define(0, SHAPE);
        place(0);
        noTemplate(0, 1, 0, IF, 0);
        noTemplate(1, 3, 0, IF, 0, HOLE, 0, HOLE, 0);
        noSource(1, IF, 0);
        noSource(3, IF, 0, NUM, 1, NUM, 2);
        for (int k = 1; k <= 12; k++) {
            token(SAY, 0, k);
        }
        define(0, SHAPE);
        place(12);
        for (int k = 1; k <= 24; k++) {
            token(SAY, 0, k);
        }
        source(0, SHAPE);
        place(24);
    }

    private static void placeElse() {
        sentence("Promise 6: else -1.");
        place(-1);
        draft(SAY, 0);
        define(0, SHAPE);
        place(1);
        concept(0, 0, NUM, 1);
        place(-1);
        draft(SAY, 0);
        define(0, SHAPE);
        place(1);
        sourceOf(0, NUM, 1);
        place(-1);
        draft(SAY, 0, SAY, 0);
        source(0, SHAPE);
        place(2);
        source(0, OK);
        place(-1);
    }

    private static void placeAfterBadOrFull() {
        sentence("Promise 6: the latest define or source that was not BAD or FULL");
        source(4, BAD);
        place(-1);
        define(4, BAD);
        place(-1);
        draft(SAY, 0, SAY, 0, SAY, 0);
        define(0, SHAPE);
        define(-1, BAD);
        place(3);
        define(4, BAD);
        place(3);
        source(-1, BAD);
        place(3);
        source(4, BAD);
        place(3);
        sixConcepts();
        place(-1);
        draft(NUM, 1, NUM, 2);
        define(0, FULL);
        place(-1);
        source(0, SHAPE);
        place(1);
        draft(NUM, 1);
        define(0, FULL);
        place(1);
    }

    private static void placeAfterOtherCalls() {
        sentence("Promise 6: the latest define or source .. (no other call changes it)");
        concept(0, 0, NUM, 1);
        sourceOf(0, USE, 0);
        draft(SAY, 0, SAY, 0);
        source(1, SHAPE);
        token(NUM, 1, 1);
        token(11, 1, BAD);
        forget(BAD);
        size(0, 1);
        size(4, BAD);
        at(0, 0, 32);
        run(0, 1, 2, 3, OK);
        run(1, 1, 2, 3, BAD);
        place(2);
        place(2);
        source(0, OK);
        place(-1);
        draft(SAY, 0);
        source(1, SHAPE);
        forget(0);
        place(1);
    }

    // ---- promises 7 to 10 ----

    /** A source with USEs in operands: one is dropped, one is copied, one is taken as it is. */
    private static void askedAbout() {
        concept(0, 1, ADD, 0, HOLE, 0, HOLE, 0);
        concept(1, 2, USE, 0, SAY, 0, HOLE, 1);
        concept(2, 1, LET, -1, HOLE, 0, VAR, -1);
        sourceOf(1, IF, 0, VAR, 0, USE + 1, 9, USE + 2, 0, NUM, 5, USE + 2, 0, NUM, 6,
            USE + 2, 0, USE, 0, VAR, 1);
    }

    private static void sizeOfAnExpansion() {
        sentence("Promise 7: How many tokens the expansion of a source has");
        askedAbout();
        size(1, 16);
        sourceOf(0, NUM, 1);
        size(0, 1);
        sourceOf(0, USE, 0, NUM, 1);
        size(0, 3);
        sourceOf(0, USE, 0, USE, 0, USE, 0, NUM, 1);
        size(0, 15);
        sourceOf(0, USE + 1, 0, USE, 0, USE, 0, NUM, 1, NUM, 2);
        size(0, 5);
        size(1, 16);
    }

    private static void usesThatAreReplaced() {
        sentence("Promise 8: How many USEs are REPLACED.");
        askedAbout();
        uses(1, 6);
        sourceOf(0, ADD, 0, NUM, 1, NUM, 2);
        uses(0, 0);
        sourceOf(0, USE, 0, NUM, 1);
        uses(0, 1);
        sourceOf(0, USE, 0, USE, 0, USE, 0, NUM, 1);
        uses(0, 7);
        sourceOf(0, USE + 1, 0, USE, 0, USE, 0, NUM, 1, NUM, 2);
        uses(0, 2);
        uses(1, 6);
    }

    private static void kindsOfAnExpansion() {
        sentence("Promise 9: How many tokens of a kind 0..8 there are");
        askedAbout();
        int[] found = {2, 6, 2, 0, 0, 0, 1, 3, 2};
        for (int kind = 0; kind <= 8; kind++) {
            kinds(1, kind, found[kind]);
        }
        sourceOf(0, LESS, 0, SUB, 0, NUM, 1, NUM, 2, MUL, 0, NUM, 3, NUM, 4);
        int[] others = {4, 0, 0, 1, 1, 1, 0, 0, 0};
        for (int kind = 0; kind <= 8; kind++) {
            kinds(0, kind, others[kind]);
        }
    }

    private static void sizeLargeEmptyOutside() {
        sentence("Promise 7: LARGE; 0 if it is empty, BAD if s is outside");
        countedConcepts();
        countedSource(0);
        countedSource(1, SAY, 0);
        sourceOf(3, NUM, 1);
        size(0, 2000);
        size(1, LARGE);
        size(2, 0);
        size(3, 1);
        for (int s : new int[] {-1, 4, MIN, MAX, 256, 65536}) {
            size(s, BAD);
        }
    }

    private static void usesLargeEmptyOutside() {
        sentence("Promise 8: so for uses");
        countedConcepts();
        countedSource(0);
        countedSource(1, USE + 5, 0);
        sourceOf(3, NUM, 1);
        uses(0, 2000);
        uses(1, LARGE);
        uses(2, 0);
        uses(3, 0);
        for (int s : new int[] {-1, 4, MIN, MAX, 256, 65536}) {
            uses(s, BAD);
        }
    }

    private static void kindsLargeEmptyOutside() {
        sentence("Promise 9: so for kinds");
        countedConcepts();
        countedSource(0);
        countedSource(1, SAY, 0);
        kinds(0, SAY, 1999);
        kinds(0, VAR, 1);
        kinds(0, NUM, 0);
        sourceOf(3, VAR, 1);
        for (int kind = 0; kind <= 8; kind++) {
            kinds(3, kind, kind == VAR ? 1 : 0);
            kinds(1, kind, LARGE);
            kinds(2, kind, 0);
            kinds(-1, kind, BAD);
            kinds(4, kind, BAD);
            kinds(MIN, kind, BAD);
            kinds(MAX, kind, BAD);
        }
    }

    private static void kindsOfOtherKinds() {
        sentence("Promise 9: tokens of a kind 0..8 (BAD for others)");
        concept(0, 1, ADD, 0, OWN, 0, HOLE, 0);
        sourceOf(0, IF, 0, USE, 3, VAR, 0, LET, 1, SAY, 0, NUM, 4, VAR, 1,
            LESS, 0, SUB, 0, NUM, 1, NUM, 2, MUL, 0, NUM, 5, NUM, 6);
        int[] found = {6, 2, 1, 1, 1, 1, 1, 1, 1};
        for (int kind = 0; kind <= 8; kind++) {
            kinds(0, kind, found[kind]);
        }
        for (int kind : new int[] {-1, 9, 10, 11, 15, 16, 21, 22, MIN, MAX, 256, 65536}) {
            kinds(0, kind, BAD);
        }
    }

    private static void depthLargeEmptyOutside() {
        sentence("Promise 10: so for depth");
        countedConcepts();
        countedSource(0);
        countedSource(1, SAY, 0);
        sourceOf(3, NUM, 1);
        depth(0, 2000);
        depth(1, LARGE);
        depth(2, 0);
        depth(3, 1);
        for (int s : new int[] {-1, 4, MIN, MAX, 256, 65536}) {
            depth(s, BAD);
        }
    }

    private static void depthIsTheGreatest() {
        sentence("Promise 10: The greatest number of tokens each of which .. is an operand of "
            + "the one before");
        sourceOf(0, IF, 0, SAY, 0, SAY, 0, NUM, 1, NUM, 2, NUM, 3);
        depth(0, 4);
        sourceOf(0, IF, 0, NUM, 1, SAY, 0, SAY, 0, NUM, 2, NUM, 3);
        depth(0, 4);
        sourceOf(0, IF, 0, NUM, 1, NUM, 2, SAY, 0, SAY, 0, NUM, 3);
        depth(0, 4);
        sourceOf(0, ADD, 0, NUM, 1, NUM, 2);
        depth(0, 2);
        concept(0, 1, HOLE, 0);
        sourceOf(0, USE, 0, USE, 0, NUM, 1);
        depth(0, 1);
    }

    // ---- promises 11 to 14 ----

    private static void atOfAnExpansion() {
        sentence("Promise 11: Token k of the expansion as 32 times its value .. plus its kind");
        askedAbout();
        tokensAre(1, IF, 0, VAR, 0,
            ADD, 0, SAY, 0, LET, 104, NUM, 6, VAR, 104, SAY, 0, LET, 106, NUM, 6, VAR, 106,
            LET, 108, ADD, 0, VAR, 1, VAR, 1, VAR, 108);
    }

    private static void originOfAToken() {
        sentence("Promise 12: The ORIGIN of token k");
        askedAbout();
        int[] origins = {0, 1, 2, 2, 5, 6, 5, 2, 5, 6, 5, 7, 8, 9, 9, 7};
        for (int k = 0; k < origins.length; k++) {
            origin(1, k, origins[k]);
        }
        sourceOf(0, ADD, 0, NUM, 1, NUM, 2);
        origin(0, 0, 0);
        origin(0, 1, 1);
        origin(0, 2, 2);
    }

    private static void parentOfAToken() {
        sentence("Promise 13: The token of which token k is an operand");
        askedAbout();
        int[] parents = {-1, 0, 0, 2, 3, 4, 4, 2, 7, 8, 8, 0, 11, 12, 12, 11};
        for (int k = 0; k < parents.length; k++) {
            parent(1, k, parents[k]);
        }
    }

    private static void atValues() {
        sentence("Promise 11: 32 times its value (0 for 2 to 6 and 8) plus its kind");
        sourceOf(0, IF, 7, LESS, 7, ADD, 7, NUM, MIN, NUM, MAX, SUB, 7, VAR, 9, VAR, 0,
            SAY, 7, MUL, 7, NUM, -1, NUM, 0, LET, 9, NUM, 1, LET, 0, NUM, 2, NUM, 3);
        long[] want = {6, 5, 2, -68719476736L, 68719476704L, 3, 289, 1, 8, 4, -32, 0, 295, 32,
            7, 64, 96};
        for (int k = 0; k < want.length; k++) {
            at(0, k, want[k]);
        }
        at(0, want.length, NONE);
    }

    private static void atOfNone() {
        sentence("Promise 11: NONE if there is none");
        concept(0, 1, ADD, 0, HOLE, 0, HOLE, 0);
        sourceOf(0, USE, 0, NUM, 1);
        at(0, 0, ADD);
        at(0, 2, 32);
        for (int k : new int[] {-1, 3, 4, 1999, 2000, 2001, MIN, MAX}) {
            at(0, k, NONE);
        }
        at(1, 0, NONE);
        at(1, -1, NONE);
    }

    private static void atOfLargeOrNotThere() {
        sentence("Promise 11: NONE if .. the source is LARGE or not there.");
        countedConcepts();
        countedSource(0);
        countedSource(1, SAY, 0);
        at(0, 0, SAY);
        at(0, 1999, 32L * 4099 + VAR);
        for (int k : new int[] {0, 1, 1999, 2000, -1, -2, -3, MIN, MAX}) {
            at(1, k, NONE);
            at(2, k, NONE);
            at(-1, k, NONE);
            at(4, k, NONE);
            at(MIN, k, NONE);
            at(MAX, k, NONE);
        }
        at(0, 2000, NONE);
    }

    private static void originBad() {
        sentence("Promise 12: BAD likewise");
        countedConcepts();
        countedSource(0);
        countedSource(1, SAY, 0);
        origin(0, 0, 0);
        origin(0, 1999, 19);
        origin(0, 2000, BAD);
        for (int k : new int[] {0, 1, 1999, 2000, -1, -2, -3, MIN, MAX}) {
            origin(0, k < 0 || k == MAX ? k : 2000, BAD);
            origin(1, k, BAD);
            origin(2, k, BAD);
            origin(-1, k, BAD);
            origin(4, k, BAD);
            origin(MIN, k, BAD);
            origin(MAX, k, BAD);
        }
    }

    private static void parentBad() {
        sentence("Promise 12: (so for parent ..)");
        countedConcepts();
        countedSource(0);
        countedSource(1, SAY, 0);
        parent(0, 1, 0);
        parent(0, 1999, 1998);
        for (int k : new int[] {0, 1, 1999, 2000, -1, -2, -3, MIN, MAX}) {
            parent(0, k < 0 || k == MAX ? k : 2000, BAD);
            parent(1, k, BAD);
            parent(2, k, BAD);
            parent(-1, k, BAD);
            parent(4, k, BAD);
            parent(MIN, k, BAD);
            parent(MAX, k, BAD);
        }
    }

    private static void spanBad() {
        sentence("Promise 12: (so for .. span)");
        countedConcepts();
        countedSource(0);
        countedSource(1, SAY, 0);
        span(0, 0, 2000);
        span(0, 1999, 1);
        for (int k : new int[] {0, 1, 1999, 2000, -1, -2, -3, MIN, MAX}) {
            span(0, k < 0 || k == MAX ? k : 2000, BAD);
            span(1, k, BAD);
            span(2, k, BAD);
            span(-1, k, BAD);
            span(4, k, BAD);
            span(MIN, k, BAD);
            span(MAX, k, BAD);
        }
    }

    private static void parentOfToken0() {
        sentence("Promise 13: -1 for token 0.");
        sourceOf(0, NUM, 1);
        parent(0, 0, -1);
        sourceOf(1, IF, 0, NUM, 1, ADD, 0, NUM, 2, NUM, 3, NUM, 4);
        parent(1, 0, -1);
        int[] parents = {0, 0, 2, 2, 0};
        for (int k = 1; k <= 5; k++) {
            parent(1, k, parents[k - 1]);
        }
        parent(1, 0, -1);
        concept(0, 1, HOLE, 0);
        sourceOf(2, USE, 0, SAY, 0, NUM, 1);
        parent(2, 0, -1);
        parent(2, 1, 0);
        parent(2, 2, BAD);
    }

    private static void spanOfOneAndOfAll() {
        sentence("Promise 14: How many tokens token k and its operands, their operands .. are "
            + "together.");
        sourceOf(0, NUM, 1);
        span(0, 0, 1);
        span(0, 1, BAD);
        sourceOf(1, IF, 0, NUM, 1, ADD, 0, NUM, 2, SAY, 0, NUM, 3, NUM, 4);
        int[] spans = {7, 1, 4, 1, 2, 1, 1};
        for (int k = 0; k <= 6; k++) {
            span(1, k, spans[k]);
        }
        span(1, 7, BAD);
    }

    // ---- promises 15 to 18 ----

    private static void runsASource() {
        sentence("Promise 15: Runs a source: OK");
        askedAbout();
        run(1, 0, 7, 0, OK);
        result(14);
        says(0);
        run(1, 1, 7, 0, OK);
        result(12);
        says(2);
        said(0, 6);
        said(1, 6);
        sourceOf(3, SAY, 0, SUB, 0, VAR, 0, ADD, 0, VAR, 1, VAR, 2);
        run(3, 100, 20, 3, OK);
        result(77);
        says(1);
        size(1, 16);
        depth(1, 5);
        result(77);
        said(0, 77);
        run(1, 0, MAX, 0, OK);
        result(-2);
        says(0);
        size(3, 6);
    }

    private static void runLarge() {
        sentence("Promise 15: OK; LARGE");
        countedConcepts();
        countedSource(0);
        countedSource(1, SAY, 0);
        countedSource(2, USE + 5, 0);
        run(0, 1, 2, 3, OK);
        says(1999);
        run(1, 1, 2, 3, LARGE);
        run(0, 1, 2, 3, OK);
        says(1999);
        run(2, 1, 2, 3, LARGE);
        says(0);
    }

    private static void runBadChangesNothing() {
        sentence("Promise 15: BAD (and nothing changes) if it is empty or not there.");
        sourceOf(0, ADD, 0, SAY, 0, VAR, 0, SAY, 0, VAR, 1);
        draft(SAY, 0, SAY, 0);
        source(3, SHAPE);
        run(0, 4, 5, 6, OK);
        for (int s : new int[] {1, 2, 3, -1, 4, MIN, MAX, 256, 65536}) {
            run(s, 7, 8, 9, BAD);
            result(9);
            says(2);
            said(0, 4);
            said(1, 5);
            said(2, 0);
            place(2);
        }
        tokensAre(0, ADD, 0, SAY, 0, VAR, 0, SAY, 0, VAR, 1);
        size(1, 0);
    }

    private static void runBadAfterLarge() {
        sentence("Promise 15: BAD (and nothing changes) .. (after a LARGE run, and before any)");
        run(0, 1, 2, 3, BAD);
        result(0);
        says(0);
        countedConcepts();
        countedSource(1, SAY, 0);
        sourceOf(0, SAY, 0, NUM, 5);
        run(0, 1, 2, 3, OK);
        run(1, 1, 2, 3, LARGE);
        run(4, 1, 2, 3, BAD);
        run(2, 1, 2, 3, BAD);
        result(0);
        says(0);
        said(0, 0);
    }

    private static void resultOfNone() {
        sentence("Promise 16: 0 if .. there was none.");
        result(0);
        sourceOf(0, NUM, 8);
        result(0);
        run(1, 1, 2, 3, BAD);
        result(0);
        run(0, 1, 2, 3, OK);
        result(8);
    }

    private static void resultOfLarge() {
        sentence("Promise 16: 0 if it was LARGE");
        countedConcepts();
        countedSource(1, SAY, 0);
        sourceOf(0, NUM, 8);
        run(0, 1, 2, 3, OK);
        result(8);
        run(1, 1, 2, 3, LARGE);
        result(0);
        run(0, 1, 2, 3, OK);
        result(8);
    }

    private static void resultOfTheLatestRun() {
        sentence("Promise 16: What the latest run that was not BAD gave");
        sourceOf(0, SAY, 0, VAR, 0);
        sourceOf(1, SAY, 0, SAY, 0, NUM, 2);
        run(0, 1, 0, 0, OK);
        run(0, MIN, 0, 0, OK);
        run(2, 3, 0, 0, BAD);
        result(MIN);
        size(1, 3);
        at(1, 2, 64);
        token(NUM, 4, 1);
        source(0, OK);
        result(MIN);
        says(1);
        said(0, MIN);
        run(1, 0, 0, 0, OK);
        result(2);
        says(2);
    }

    private static void saysOfNone() {
        sentence("Promise 17: How many ints it said (0 before any run, after a LARGE one, and "
            + "without SAY).");
        says(0);
        countedConcepts();
        countedSource(1, SAY, 0);
        sourceOf(0, SAY, 0, NUM, 8);
        sourceOf(2, NUM, 8);
        says(0);
        run(0, 1, 2, 3, OK);
        says(1);
        run(1, 1, 2, 3, LARGE);
        says(0);
        run(0, 1, 2, 3, OK);
        says(1);
        run(2, 1, 2, 3, OK);
        says(0);
    }

    /** A source that says 101, 102 .. : eighteen numbers, and as many more as are asked for. */
    private static void countingSays(int ones) {
        concept(0, 1, SAY, 0, ADD, 0, NUM, 1, HOLE, 0);
        concept(1, 1, USE, 0, USE, 0, USE, 0, USE, 0, USE, 0, USE, 0, HOLE, 0);
        int count = 0;
        token(USE + 1, 0, ++count);
        token(USE + 1, 0, ++count);
        token(USE + 1, 0, ++count);
        for (int k = 0; k < ones; k++) {
            token(USE, 0, ++count);
        }
        token(NUM, 100, ++count);
        source(0, OK);
    }

    private static void saysMoreThan20() {
        sentence("Promise 17: How many ints it said (all of them, also beyond 20).");
        for (int ones = 1; ones <= 3; ones++) {
            newShop();
            countingSays(ones);
            run(0, 0, 0, 0, OK);
            says(18 + ones);
            result(118 + ones);
        }
    }

    private static void saidOfTheFirst20() {
        sentence("Promise 18: The k-th of the first 20 of them");
        for (int ones = 1; ones <= 4; ones++) {
            newShop();
            countingSays(ones);
            run(0, 0, 0, 0, OK);
            for (int k = 0; k < 24; k++) {
                said(k, k < 20 && k < 18 + ones ? 101 + k : 0);
            }
        }
    }

    private static void saidOfNone() {
        sentence("Promise 18: 0 if there is none.");
        said(0, 0);
        sourceOf(0, SAY, 0, SAY, 0, NUM, 8);
        said(0, 0);
        run(0, 1, 2, 3, OK);
        said(0, 8);
        said(1, 8);
        for (int k : new int[] {-1, 2, 19, 20, 21, MIN, MAX}) {
            said(k, 0);
        }
    }

    private static void saidOfAShorterRun() {
        sentence("Promise 18: 0 if there is none (what an earlier run said is gone).");
        countedConcepts();
        countedSource(1, SAY, 0);
        sourceOf(0, SAY, 0, SAY, 0, SAY, 0, NUM, 8);
        sourceOf(2, SAY, 0, NUM, 9);
        sourceOf(3, NUM, 9);
        run(0, 1, 2, 3, OK);
        said(2, 8);
        run(2, 1, 2, 3, OK);
        said(0, 9);
        said(1, 0);
        said(2, 0);
        run(0, 1, 2, 3, OK);
        run(3, 1, 2, 3, OK);
        said(0, 0);
        run(0, 1, 2, 3, OK);
        run(1, 1, 2, 3, LARGE);
        said(0, 0);
        said(1, 0);
    }

    // ---- promise 19 ----

    private static void tokenTestsBadFirst() {
        sentence("Promise 19: token tests BAD before FULL");
        sayDraft(24, 1);
        token(11, 0, BAD);
        token(-1, 0, BAD);
        token(22, 0, BAD);
        token(VAR, 10, BAD);
        token(VAR, -3, BAD);
        token(LET, 10, BAD);
        token(LET, -3, BAD);
        token(HOLE, 3, BAD);
        token(HOLE, -1, BAD);
        token(VAR, 9, FULL);
        token(LET, -2, FULL);
        token(HOLE, 2, FULL);
        source(0, OK);
        size(0, 24);
    }

    private static void defineTestsBadFirst() {
        sentence("Promise 19: define tests BAD, then FULL, then SHAPE");
        draft(ADD, 0);
        define(4, BAD);
        define(-1, BAD);
        define(0, SHAPE);
        sixConcepts();
        draft(ADD, 0);
        define(4, BAD);
        define(-1, BAD);
        define(0, FULL);
        define(3, FULL);
        place(-1);
        token(NUM, 1, 2);
        token(NUM, 2, 3);
        define(4, BAD);
        define(0, FULL);
        source(0, OK);
        tokensAre(0, ADD, 0, NUM, 1, NUM, 2);
        define(4, BAD);
        define(0, FULL);
    }

    private static void kindsTestsKindFirst() {
        sentence("Promise 19: kinds tests kind (BAD) before all else");
        countedConcepts();
        countedSource(1, SAY, 0);
        sourceOf(0, NUM, 1);
        for (int kind : new int[] {-1, 9, 16, MIN, MAX}) {
            kinds(0, kind, BAD);
            kinds(1, kind, BAD);
            kinds(2, kind, BAD);
            kinds(4, kind, BAD);
        }
        kinds(1, 8, LARGE);
        kinds(2, 8, 0);
        kinds(2, 0, 0);
        kinds(4, 0, BAD);
    }

    private static void draftIsEmptyAfterShape() {
        sentence("Promise 19: define and source: the draft is empty afterwards also with SHAPE.");
        draft(ADD, 0, NUM, 1);
        define(0, SHAPE);
        token(NUM, 2, 1);
        source(0, OK);
        tokensAre(0, NUM, 2);
        draft(ADD, 0, NUM, 3);
        source(0, SHAPE);
        token(NUM, 4, 1);
        define(0, 0);
        draft(NUM, 1, NUM, 2);
        source(1, SHAPE);
        source(0, OK);
        size(0, 0);
        sayDraft(24, 1);
        define(0, SHAPE);
        sayDraft(24, 2);
        source(1, OK);
        size(1, 24);
    }

    private static void useOfNoConcept() {
        sentence("Promise 19: A USE of a concept that there is not has no place");
        noTemplate(0, 0, 0, USE, 0);
        noSource(0, USE, 0);
        concept(0, 0, NUM, 1);
        template(0, 1, SAY, 0, USE, 0);
        noTemplate(0, 1, 1, SAY, 0, USE + 1, 0);
        noSource(1, SAY, 0, USE + 1, 0);
        concept(1, 2, NUM, 1);
        sourceOf(0, USE + 1, 0, USE, 0, USE, 0);
        noSource(2, USE + 1, 0, USE, 0, USE + 2, 0);
        source(0, OK);
        forget(1);
        noTemplate(0, 0, 1, USE + 1, 0, NUM, 1, NUM, 1);
        noSource(0, USE + 1, 0, NUM, 1, NUM, 1);
        forget(0);
        noTemplate(0, 0, 0, USE, 0);
        noSource(0, USE, 0);
    }

    private static void saidFrom0() {
        sentence("Promise 19: said: k is 0 for the first.");
        sourceOf(0, ADD, 0, SAY, 0, NUM, 5, SAY, 0, NUM, 6);
        run(0, 0, 0, 0, OK);
        said(-1, 0);
        said(0, 5);
        said(1, 6);
        said(2, 0);
    }

    private static void terms() {
        kindsOfTokens();
        prefixOrder();
        numbersOfNum();
        numbersOfUse();
        operandsOfTokens();
        operandsOfUse();
        operandsOfUseInTemplates();
        variablesInSources();
        variablesInTemplates();
        holesAndOwnInTemplatesAlone();
        atMostSixConcepts();
        numberOfHoles();
        templateTokens();
        templatesOfFullLength();
        holesBelowTheNumber();
        usesOfLesserConcepts();
        numbersOfSources();
        sourceTokens();
    }

    private static void expansions() {
        asLongAsThereIsAUse();
        firstUseIsReplaced();
        holeIsTheOperand();
        ownIsTheNumber();
        freshVariables();
        largestVariable();
        mostUses();
        mostUsesOfFewTokens();
        mostTokens();
        mostTokensOfFewUses();
        tokensAtLast();
        usesThatAreNotReplaced();
        tokensAreNumberedFrom0();
        originsOfTokens();
        originsOfMany();
    }

    private static void runs() {
        runWorksAnExpansionOut();
        nearestLet();
        letFarAround();
        variablesWithoutLet();
        letGivesItsVariable();
        letOfAFreshVariable();
        ifNotZero();
        otherIsNotWorkedOut();
        sayIsItsOperand();
        operandsFromTheFirstOn();
        wrapAround();
        lessIs1Or0();
    }

    private static void promises1To5() {
        newHasNoConcepts();
        newHasEmptySources();
        newHasAnEmptyDraft();
        newWasNotRun();
        newIsApartFromOthers();
        tokenAppends();
        tokenOfNoKind();
        tokenOfAVariableOutside();
        tokenOfAHoleOutside();
        tokenOfAnyOtherValue();
        tokenThatIsBadIsNotAppended();
        tokenFull();
        defineAnswersTheNumber();
        defineEmptiesTheDraft();
        defineHolesOutside();
        defineFull();
        defineShape();
        forgetAnswersTheNumber();
        forgetOfNone();
        forgetOfOneInASource();
        forgetOfOneThatVanishes();
        forgetOfOneThatIsNotInASource();
        forgetThatIsBadForgetsNothing();
        forgottenAndDefinedAnew();
        sourceTakesThePlaceOfAnother();
        sourceEmptiesTheDraft();
        sourceOfAnEmptyDraft();
        sourceOutside();
        sourceShape();
        sourceKeepsWhatItWas();
    }

    private static void promises6To14() {
        placeBehindAWhole();
        placeOfNoPlace();
        placeOfThe13th();
        placeOfNone();
        placeElse();
        placeAfterBadOrFull();
        placeAfterOtherCalls();
        sizeOfAnExpansion();
        sizeLargeEmptyOutside();
        usesThatAreReplaced();
        usesLargeEmptyOutside();
        kindsOfAnExpansion();
        kindsLargeEmptyOutside();
        kindsOfOtherKinds();
        depthLargeEmptyOutside();
        depthIsTheGreatest();
        atOfAnExpansion();
        atValues();
        atOfNone();
        atOfLargeOrNotThere();
        originOfAToken();
        originBad();
        parentOfAToken();
        parentBad();
        spanBad();
        parentOfToken0();
        spanOfOneAndOfAll();
    }

    private static void promises15To19() {
        runsASource();
        runLarge();
        runBadChangesNothing();
        runBadAfterLarge();
        resultOfNone();
        resultOfLarge();
        resultOfTheLatestRun();
        saysOfNone();
        saysMoreThan20();
        saidOfTheFirst20();
        saidOfNone();
        saidOfAShorterRun();
        tokenTestsBadFirst();
        defineTestsBadFirst();
        kindsTestsKindFirst();
        draftIsEmptyAfterShape();
        useOfNoConcept();
        saidFrom0();
    }

    public static void main(String[] args) {
        whatItIs();
        atMost512Calls();
        terms();
        expansions();
        runs();
        promises1To5();
        promises6To14();
        promises15To19();
        System.out.println(sentences + " sentences, " + answers + " answers, " + wrong + " wrong");
        if (wrong != 0) {
            System.exit(1);
        }
    }
}
