/**
 * A shop for small languages: concepts with templates, sources made of them, and the
 * expansions of the sources, which are asked about, traced back and run.
 *
 * An expansion is never rewritten in place, since its text may be far longer on the way
 * than at last. It is walked in prefix order instead: every USE on the way opens a frame,
 * and a HOLE goes back to the operand in the text around its frame's USE. The walk meets
 * the USEs in just the order in which rewriting the first USE again and again replaces them.
 */
public final class TemplateShop {
    public static final int OK = 0, SHAPE = -1, LARGE = -2, BAD = -3, FULL = -4;
    public static final long NONE = 100000000000L;

    private static final int NUM = 0, VAR = 1, ADD = 2, SUB = 3, MUL = 4, LESS = 5, IF = 6;
    private static final int LET = 7, SAY = 8, HOLE = 9, OWN = 10, USE = 16;

    private static final int CONCEPTS = 6;
    private static final int MOST_HOLES = 3;
    private static final int TEMPLATE_TOKENS = 12;
    private static final int SOURCES = 4;
    private static final int SOURCE_TOKENS = 24;
    private static final int LEAST_VARIABLE = -2;
    private static final int MOST_VARIABLE = 9;
    private static final int FIRST_FRESH = 100;
    private static final int KEPT_SAYS = 20;

    // All written tokens lie in one text: the sources, then the draft, then the templates.
    private static final int DRAFT = SOURCES * SOURCE_TOKENS;
    private static final int TEMPLATES = DRAFT + SOURCE_TOKENS;
    private static final int TEXT = TEMPLATES + CONCEPTS * TEMPLATE_TOKENS;

    // The bound of both the USEs and the tokens of an expansion that is not LARGE.
    private static final int MOST = 2000;
    // Frame 0 is the source itself; each USE that is replaced has one more.
    private static final int FRAMES = MOST + 1;
    // Opening a template goes one frame in and opening an operand one frame out, so among the
    // open pieces there are never more operands than templates; one more is the source.
    private static final int PIECES = 2 * MOST + 1;
    // Far above the steps that a walk over at most MOST USEs and MOST tokens can take.
    private static final int MOST_STEPS = 1000000;

    private final int[] textKind = new int[TEXT];
    private final int[] textValue = new int[TEXT];
    private final int[] sourceSize = new int[SOURCES];
    private int draftSize = 0;
    private final int[] templateSize = new int[CONCEPTS];
    private final int[] holesOf = new int[CONCEPTS];
    private int conceptCount = 0;
    private int misplaced = -1;

    private final int[] frameUse = new int[FRAMES];
    private final int[] frameAround = new int[FRAMES];
    private final int[] frameOrigin = new int[FRAMES];
    private int replaced = 0;

    private final int[] pieceNext = new int[PIECES];
    private final int[] pieceEnd = new int[PIECES];
    private final int[] pieceFrame = new int[PIECES];
    private int pieceCount = 0;

    private final int[] plainKind = new int[MOST];
    private final int[] plainValue = new int[MOST];
    private final int[] plainOrigin = new int[MOST];
    private final int[] plainParent = new int[MOST];
    private final int[] plainSpan = new int[MOST];
    private final int[] plainHeight = new int[MOST];
    private int plainCount = 0;
    private boolean tooLarge = false;

    private final int[] worth = new int[MOST];
    private final int[] saidInts = new int[KEPT_SAYS];
    private int saidCount = 0;
    private int outcome = 0;

    public TemplateShop() {
    }

    public int token(int kind, int value) {
        if (!isToken(kind, value)) {
            return BAD;
        }
        if (draftSize >= SOURCE_TOKENS) {
            return FULL;
        }
        textKind[DRAFT + draftSize] = kind;
        textValue[DRAFT + draftSize] = hasValue(kind) ? value : 0;
        draftSize++;
        return draftSize;
    }

    public int define(int holes) {
        if (holes < 0 || holes > MOST_HOLES) {
            return BAD;
        }
        if (conceptCount >= CONCEPTS) {
            return FULL;
        }
        misplaced = faultOfDraft(true, holes);
        if (misplaced >= 0) {
            draftSize = 0;
            return SHAPE;
        }
        int concept = conceptCount;
        templateSize[concept] = draftSize;
        holesOf[concept] = holes;
        moveDraft(TEMPLATES + concept * TEMPLATE_TOKENS);
        conceptCount++;
        return concept;
    }

    public int forget() {
        int latest = conceptCount - 1;
        if (latest < 0 || isUsedInSources(latest)) {
            return BAD;
        }
        conceptCount = latest;
        return latest;
    }

    public int source(int s) {
        if (!isSource(s)) {
            return BAD;
        }
        misplaced = draftSize == 0 ? -1 : faultOfDraft(false, 0);
        if (misplaced >= 0) {
            draftSize = 0;
            return SHAPE;
        }
        sourceSize[s] = draftSize;
        moveDraft(s * SOURCE_TOKENS);
        return OK;
    }

    public int place() {
        return misplaced;
    }

    public int size(int s) {
        return expand(s);
    }

    public int uses(int s) {
        int count = expand(s);
        return count > 0 ? replaced : count;
    }

    public int kinds(int s, int kind) {
        if (kind < NUM || kind > SAY) {
            return BAD;
        }
        int count = expand(s);
        if (count <= 0) {
            return count;
        }
        int found = 0;
        for (int k = 0; k < count; k++) {
            if (plainKind[k] == kind) {
                found++;
            }
        }
        return found;
    }

    public int depth(int s) {
        int count = expand(s);
        return count > 0 ? plainHeight[0] : count;
    }

    public long at(int s, int k) {
        int count = expand(s);
        if (k < 0 || k >= count) {
            return NONE;
        }
        return 32L * plainValue[k] + plainKind[k];
    }

    public int origin(int s, int k) {
        int count = expand(s);
        return k >= 0 && k < count ? plainOrigin[k] : BAD;
    }

    public int parent(int s, int k) {
        int count = expand(s);
        return k >= 0 && k < count ? plainParent[k] : BAD;
    }

    public int span(int s, int k) {
        int count = expand(s);
        return k >= 0 && k < count ? plainSpan[k] : BAD;
    }

    public int run(int s, int a, int b, int c) {
        int count = expand(s);
        if (count == 0 || count == BAD) {
            return BAD;
        }
        saidCount = 0;
        outcome = 0;
        if (count == LARGE) {
            return LARGE;
        }
        workOut(a, b, c);
        outcome = worth[0];
        return OK;
    }

    public int result() {
        return outcome;
    }

    public int says() {
        return saidCount;
    }

    public int said(int k) {
        return k >= 0 && k < KEPT_SAYS && k < saidCount ? saidInts[k] : 0;
    }

    // ---- written tokens ----

    private static boolean isToken(int kind, int value) {
        if (kind == VAR || kind == LET) {
            return value >= LEAST_VARIABLE && value <= MOST_VARIABLE;
        }
        if (kind == HOLE) {
            return value >= 0 && value < MOST_HOLES;
        }
        return (kind >= NUM && kind <= OWN) || isUse(kind);
    }

    private static boolean hasValue(int kind) {
        return kind == NUM || kind == VAR || kind == LET || kind == HOLE || isUse(kind);
    }

    private static boolean isUse(int kind) {
        return kind >= USE && kind < USE + CONCEPTS;
    }

    private static boolean isSource(int s) {
        return s >= 0 && s < SOURCES;
    }

    private int operandsOf(int kind) {
        if (kind >= USE && kind < USE + CONCEPTS) {
            return holesOf[kind - USE];
        }
        if (kind == IF) {
            return 3;
        }
        if (kind == SAY) {
            return 1;
        }
        return (kind >= ADD && kind <= LESS) || kind == LET ? 2 : 0;
    }

    /** The token that place() tells of, or -1 if the draft is a template or a source. */
    private int faultOfDraft(boolean asTemplate, int holes) {
        int open = 1;
        for (int k = 0; k < draftSize; k++) {
            boolean fits = asTemplate ? fitsTemplate(k, holes) : fitsSource(k);
            if (open == 0 || !fits) {
                return k;
            }
            open += operandsOf(textKind[DRAFT + k]) - 1;
        }
        return open == 0 ? -1 : draftSize;
    }

    private boolean fitsTemplate(int k, int holes) {
        int kind = textKind[DRAFT + k];
        if (k >= TEMPLATE_TOKENS) {
            return false;
        }
        if (kind == HOLE) {
            return textValue[DRAFT + k] < holes;
        }
        return !isUse(kind) || kind - USE < conceptCount;
    }

    private boolean fitsSource(int k) {
        int kind = textKind[DRAFT + k];
        if (kind == VAR || kind == LET) {
            return textValue[DRAFT + k] >= 0;
        }
        if (isUse(kind)) {
            return kind - USE < conceptCount;
        }
        return kind != HOLE && kind != OWN;
    }

    private void moveDraft(int to) {
        for (int k = 0; k < draftSize; k++) {
            textKind[to + k] = textKind[DRAFT + k];
            textValue[to + k] = textValue[DRAFT + k];
        }
        draftSize = 0;
    }

    private boolean isUsedInSources(int concept) {
        for (int s = 0; s < SOURCES; s++) {
            for (int k = 0; k < sourceSize[s]; k++) {
                if (textKind[s * SOURCE_TOKENS + k] == USE + concept) {
                    return true;
                }
            }
        }
        return false;
    }

    /** The spot in the text behind the expression that begins at a spot. */
    private int behind(int begin) {
        int open = 1;
        int spot = begin;
        for (; spot < TEXT && open > 0; spot++) {
            open += operandsOf(textKind[spot]) - 1;
        }
        return spot;
    }

    // ---- expansion ----

    /** Lays the expansion of a source out: its tokens; 0 if it is empty, else LARGE or BAD. */
    private int expand(int s) {
        if (!isSource(s)) {
            return BAD;
        }
        int begin = s * SOURCE_TOKENS;
        replaced = 0;
        plainCount = 0;
        tooLarge = false;
        pieceCount = 0;
        openPiece(begin, begin + sourceSize[s], 0);
        for (int step = 0; step < MOST_STEPS && pieceCount > 0 && !tooLarge; step++) {
            int top = pieceCount - 1;
            int spot = pieceNext[top];
            if (spot >= pieceEnd[top]) {
                pieceCount = top;
            } else if (isUse(textKind[spot])) {
                openTemplate(top, begin);
            } else if (textKind[spot] == HOLE) {
                openOperand(top);
            } else {
                addPlain(top, begin);
            }
        }
        if (tooLarge) {
            return LARGE;
        }
        linkPlain();
        return plainCount;
    }

    /** A piece of text that is still to be walked over, in the frame that it belongs to. */
    private void openPiece(int next, int end, int frame) {
        if (pieceCount < PIECES) {
            pieceNext[pieceCount] = next;
            pieceEnd[pieceCount] = end;
            pieceFrame[pieceCount] = frame;
            pieceCount++;
        }
    }

    private void openTemplate(int piece, int begin) {
        if (replaced >= MOST) {
            tooLarge = true;
            return;
        }
        int use = pieceNext[piece];
        replaced++;
        frameUse[replaced] = use;
        frameAround[replaced] = pieceFrame[piece];
        frameOrigin[replaced] = originOfNext(piece, begin);
        pieceNext[piece] = behind(use);
        int concept = textKind[use] - USE;
        int template = TEMPLATES + concept * TEMPLATE_TOKENS;
        openPiece(template, template + templateSize[concept], replaced);
    }

    private void openOperand(int piece) {
        int hole = textValue[pieceNext[piece]];
        int frame = pieceFrame[piece];
        int operand = frameUse[frame] + 1;
        for (int k = 0; k < hole; k++) {
            operand = behind(operand);
        }
        int end = behind(operand);
        pieceNext[piece]++;
        openPiece(operand, end, frameAround[frame]);
    }

    private void addPlain(int piece, int begin) {
        if (plainCount >= MOST) {
            tooLarge = true;
            return;
        }
        int frame = pieceFrame[piece];
        int kind = textKind[pieceNext[piece]];
        int value = textValue[pieceNext[piece]];
        if (kind == OWN) {
            kind = NUM;
            value = textValue[frameUse[frame]];
        } else if (kind != NUM && value < 0) {
            value = FIRST_FRESH + 2 * (frame - 1) + (-1 - value);
        }
        plainKind[plainCount] = kind;
        plainValue[plainCount] = value;
        plainOrigin[plainCount] = originOfNext(piece, begin);
        plainCount++;
        pieceNext[piece]++;
    }

    private int originOfNext(int piece, int begin) {
        int frame = pieceFrame[piece];
        return frame == 0 ? pieceNext[piece] - begin : frameOrigin[frame];
    }

    /** Goes backwards, so that the operands' spans and heights stand when a token needs them. */
    private void linkPlain() {
        for (int k = plainCount - 1; k >= 0; k--) {
            int operands = operandsOf(plainKind[k]);
            int next = k + 1;
            int highest = 0;
            for (int j = 0; j < operands && next < plainCount; j++) {
                plainParent[next] = k;
                highest = plainHeight[next] > highest ? plainHeight[next] : highest;
                next += plainSpan[next];
            }
            plainSpan[k] = next - k;
            plainHeight[k] = highest + 1;
        }
        plainParent[0] = -1;
    }

    // ---- run ----

    /** Goes down to the first token that is worth something by itself, and up from there. */
    private void workOut(int a, int b, int c) {
        int k = 0;
        boolean isDone = false;
        for (int step = 0; step < MOST_STEPS && k >= 0; step++) {
            if (!isDone && operandsOf(plainKind[k]) > 0) {
                k++;
                continue;
            }
            if (!isDone) {
                worth[k] = plainKind[k] == NUM ? plainValue[k] : variableAt(k, a, b, c);
            }
            int next = operandAfter(k);
            isDone = next < 0;
            if (isDone) {
                next = plainParent[k];
                finish(next, k);
            }
            k = next;
        }
    }

    /** The operand that is to be worked out when operand k has been, or -1 if none is. */
    private int operandAfter(int k) {
        int above = plainParent[k];
        if (above < 0 || k != above + 1 || plainKind[above] == SAY) {
            return -1;
        }
        int second = k + plainSpan[k];
        boolean skipsSecond = plainKind[above] == IF && worth[k] == 0;
        return skipsSecond ? second + plainSpan[second] : second;
    }

    /** Gives token k, if there is one, its worth: its last operand has been worked out. */
    private void finish(int k, int last) {
        if (k < 0) {
            return;
        }
        int first = worth[k + 1];
        int second = worth[last];
        switch (plainKind[k]) {
            case ADD:
                worth[k] = first + second;
                break;
            case SUB:
                worth[k] = first - second;
                break;
            case MUL:
                worth[k] = first * second;
                break;
            case LESS:
                worth[k] = first < second ? 1 : 0;
                break;
            case SAY:
                say(second);
                worth[k] = second;
                break;
            default:
                worth[k] = second;
                break;
        }
    }

    private void say(int number) {
        if (saidCount < KEPT_SAYS) {
            saidInts[saidCount] = number;
        }
        saidCount++;
    }

    private int variableAt(int k, int a, int b, int c) {
        int variable = plainValue[k];
        int below = k;
        int above = plainParent[k];
        for (int step = 0; step < MOST && above >= 0; step++) {
            boolean isSecond = below != above + 1;
            if (plainKind[above] == LET && plainValue[above] == variable && isSecond) {
                return worth[above + 1];
            }
            below = above;
            above = plainParent[above];
        }
        switch (variable) {
            case 0:
                return a;
            case 1:
                return b;
            case 2:
                return c;
            default:
                return 0;
        }
    }
}
