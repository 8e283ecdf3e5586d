import java.util.NoSuchElementException;

/** Functions turned to data: a program of functions that are handed on, what comes where, its form without functions. */
public final class FlowApply {
    public static final int NONE = -1;

    private static final int MOST_BYTES = 400;
    private static final int FEED_BYTES = 20;
    private static final int MOST_GLOBALS = 6;
    private static final int MOST_LAMBDAS = 18;
    private static final int MOST_FUNCTIONS = MOST_GLOBALS + MOST_LAMBDAS;
    // Each let is a THING and has another one ahead of its in.
    private static final int MOST_LETS = 50;
    private static final int MOST_VARS = MOST_FUNCTIONS + MOST_LETS;
    private static final int MOST_THINGS = 100;
    private static final int MOST_NESTED = 20;
    private static final int MOST_LETTERS = 4;
    private static final int MOST_STEPS = 100;
    // Numbers, each VAR, two of each FUNCTION, and two of each SITE or one of each dead: some 270 at the most.
    private static final int MOST_TYPES = 400;
    private static final int MOST_TYPE_BYTES = 300;
    // A form tells each LAMBDA twice, with 20 FIELDS of five bytes each at the most: some 6,000 bytes with all the rest.
    private static final int MOST_SHOWN = 7000;
    private static final int SPLITS = 3;
    private static final int PARTS = 3;
    // Above every number of rounds that a loop without a bound of the document can need.
    private static final int MANY = 1000000;

    private static final int NUMBER = 1;
    private static final int VARIABLE = 2;
    private static final int GLOBAL = 3;
    private static final int DEAD = 4;
    private static final int LAMBDA = 5;
    private static final int CHOICE = 6;
    private static final int LET = 7;
    private static final int OPERATOR = 8;
    private static final int SITE = 9;

    private static final int ENDS_NUMBER = 0;
    private static final int ENDS_FUNCTION = 1;
    private static final int ENDS_DIVISION = 2;
    private static final int ENDS_DEAD = 3;
    private static final int ENDS_STEPS = 4;
    private static final int ENDS_CASE = 5;

    private final Row tape = new Row(MOST_BYTES);
    private final Row shown = new Row(MOST_SHOWN);
    private final Row fields = new Row(MOST_VARS);
    private final Reader reader = new Reader(tape);
    private final Writer writer = new Writer(shown);
    private final Machine machine = new Machine();
    private Scene now = new Scene();
    private Scene spare = new Scene();
    private int faultAt = NONE;

    public FlowApply() {
        now.program.makeDead();
        now.settle();
    }

    public int feed(int a, int b, int c, int d, int e) {
        if (tape.size() + FEED_BYTES > MOST_BYTES) {
            return NONE;
        }
        feedNumber(a);
        feedNumber(b);
        feedNumber(c);
        feedNumber(d);
        feedNumber(e);
        return tape.size();
    }

    private void feedNumber(int number) {
        for (int shift = 24; shift >= 0; shift -= 8) {
            tape.add(number >>> shift & 255);
        }
    }

    public boolean end(int n) {
        if (n < 0 || n > tape.size()) {
            return false;
        }
        tape.cut(n);
        return true;
    }

    public int read() throws IllegalArgumentException, IllegalStateException {
        faultAt = reader.parse();
        tape.clear();
        if (faultAt != NONE) {
            throw new IllegalArgumentException("the text is wrong");
        }
        spare.program.copy(reader.raw, reader.told(), NONE);
        if (!spare.settle()) {
            throw new IllegalStateException("the program does not type");
        }
        return adopt();
    }

    /** What stands in the spare scene is THE PROGRAM from here on. */
    private int adopt() {
        Scene old = now;
        now = spare;
        spare = old;
        shown.clear();
        machine.forget();
        return now.program.functions;
    }

    public int fault() {
        return faultAt;
    }

    public int function(int f, int what) throws IndexOutOfBoundsException, NoSuchElementException {
        needFunction(f);
        switch (what) {
            case 0: return now.program.home(f);
            case 1: return f < now.program.globals ? 1 : 0;
            case 2: return oneIf(hasBit(now.flow.made, f));
            case 3: return oneIf(hasBit(now.flow.called, f));
            case 4: return now.flow.held.bits(f);
            case 5: return now.flow.comesOfBody(now.program, f);
            case 6: return countFields(now.program, f);
            case 7: return now.groups.groupOf(2, f);
            case 8: return now.groups.groupOf(1, f);
            case 9: return now.flow.calls.bits(f);
            case 10: return now.flow.ringOf(f);
            case 11: return oneIf(hasBit(now.flow.escapes(now.program), f));
            case 12: return now.flow.countSitesOf(now.program, f);
            default: throw new NoSuchElementException("no such what of a function");
        }
    }

    private void needFunction(int f) {
        if (f < 0 || f >= now.program.functions) {
            throw new IndexOutOfBoundsException("no such function");
        }
    }

    private int countFields(Program program, int f) {
        program.listFields(f, fields);
        return fields.size();
    }

    public int field(int f, int k) throws IndexOutOfBoundsException, NoSuchElementException {
        needFunction(f);
        now.program.listFields(f, fields);
        if (k < 0 || k >= fields.size()) {
            throw new NoSuchElementException("no such field");
        }
        return writer.showName(now.program.varNames.at(fields.at(k)));
    }

    public int type(int f) throws IndexOutOfBoundsException {
        needFunction(f);
        return writer.showType(now.typing, now.typing.ofFunction.at(f));
    }

    public int typeOfMain() {
        return writer.showType(now.typing, now.typing.ofThing.at(now.program.main));
    }

    public boolean alike(int f, int g) throws IndexOutOfBoundsException {
        needFunction(f);
        needFunction(g);
        return now.typing.same(f, g);
    }

    public int site(int site, int what) throws IndexOutOfBoundsException, NoSuchElementException {
        if (site < 0 || site >= now.program.sites) {
            throw new IndexOutOfBoundsException("no such site");
        }
        int thing = now.program.siteThings.at(site);
        int applied = now.flow.applied(now.program, thing);
        switch (what) {
            case 0: return now.program.owner(thing);
            case 1: return applied;
            case 2: return now.flow.comes.bits(now.program.part(thing, 1));
            case 3: return now.flow.comes.bits(thing);
            case 4: return now.groups.groupOf(2, lowest(applied));
            case 5: return oneIf(Integer.bitCount(applied) == 1);
            case 6: return oneIf(now.flow.looked(now.program.owner(thing)));
            default: throw new NoSuchElementException("no such what of a site");
        }
    }

    public int split(int split, int what) throws NoSuchElementException, IllegalArgumentException {
        if (what < 0 || what > 4) {
            throw new NoSuchElementException("no such what of a split");
        }
        needSplit(split);
        switch (what) {
            case 0: return now.groups.many(split);
            case 1: return now.groups.manyWithCases(split, now.flow.called);
            case 2: return Integer.bitCount(now.flow.called);
            case 3: return now.groups.mostCases(split, now.flow.called);
            default: return Integer.bitCount(now.flow.made & ~now.flow.called);
        }
    }

    private void needSplit(int split) {
        if (split < 0 || split >= SPLITS) {
            throw new IllegalArgumentException("no such split");
        }
    }

    public int group(int split, int k, boolean cases) throws IllegalArgumentException, NoSuchElementException {
        needSplit(split);
        if (k < 0 || k >= now.groups.many(split)) {
            throw new NoSuchElementException("no such group");
        }
        int members = now.groups.members(split, k);
        return cases ? members & now.flow.called : members;
    }

    public int run(int how, int what) throws IllegalArgumentException, NoSuchElementException {
        needHow(how);
        if (what < 0 || what > 4) {
            throw new NoSuchElementException("no such what of a run");
        }
        machine.perform(now, how);
        switch (what) {
            case 0: return machine.ending;
            case 1: return machine.result;
            case 2: return machine.steps;
            case 3: return machine.deep;
            default: return machine.entered;
        }
    }

    private void needHow(int how) {
        if (how < 0 || how > SPLITS) {
            throw new IllegalArgumentException("no such how");
        }
    }

    public int blame(int how, int k) throws IllegalArgumentException {
        needHow(how);
        machine.perform(now, how);
        return machine.blamed(k);
    }

    public int form(int split) throws IllegalArgumentException {
        needSplit(split);
        return writer.showForm(now, split);
    }

    public int back() {
        makeBack();
        return writer.showProgram(spare);
    }

    private void makeBack() {
        spare.program.copy(now.program, now.flow.made, now.flow.called);
    }

    public int show() {
        return writer.showProgram(now);
    }

    public int take() {
        makeBack();
        // BACK asks less of the TYPES than the program did, so it always has some.
        spare.settle();
        return adopt();
    }

    public int ring(int k) throws IndexOutOfBoundsException {
        if (k < 0 || k >= now.flow.rings.size()) {
            throw new IndexOutOfBoundsException("no such ring");
        }
        return now.flow.rings.bits(k);
    }

    public int far(int f, int g) throws IndexOutOfBoundsException {
        needFunction(f);
        needFunction(g);
        return now.flow.distance(f, g);
    }

    public int octet(int k) {
        return shown.at(k);
    }

    public int count(int what) {
        switch (what) {
            case 0: return now.program.globals;
            case 1: return now.program.functions - now.program.globals;
            case 2: return now.program.sites;
            case 3: return now.program.things();
            case 4: return now.flow.escapes(now.program);
            case 5: return now.flow.made;
            case 6: return now.flow.called;
            case 7: return now.flow.countLooked(now.program);
            case 8: return now.flow.countKnown(now.program);
            case 9: return now.flow.rings.size();
            case 10: return shown.size();
            case 11: return countMadeFields();
            case 12: return countBackThings();
            default: return NONE;
        }
    }

    private int countMadeFields() {
        int many = 0;
        for (int f = 0; f < now.program.functions; f++) {
            if (hasBit(now.flow.made, f)) {
                many += countFields(now.program, f);
            }
        }
        return many;
    }

    private int countBackThings() {
        makeBack();
        return spare.program.things();
    }

    private static int oneIf(boolean holds) {
        return holds ? 1 : 0;
    }

    private static int bit(int k) {
        return k >= 0 && k < MOST_FUNCTIONS ? 1 << k : 0;
    }

    private static boolean hasBit(int bits, int k) {
        return k >= 0 && k < MOST_FUNCTIONS && (bits >>> k & 1) != 0;
    }

    /** The least FUNCTION of a set, NONE of the empty one. */
    private static int lowest(int bits) {
        return bits == 0 ? NONE : Integer.numberOfTrailingZeros(bits);
    }

    /** Numbers in a row with room for so many: what does not fit is refused, what is not there is NONE. */
    private static final class Row {
        private final int[] cells;
        private int size = 0;

        Row(int most) {
            cells = new int[Math.max(most, 0)];
        }

        int size() {
            return size;
        }

        int at(int k) {
            return k >= 0 && k < size && k < cells.length ? cells[k] : NONE;
        }

        /** As at, for sets: what is not there has nothing. */
        int bits(int k) {
            return k >= 0 && k < size && k < cells.length ? cells[k] : 0;
        }

        void add(int number) {
            if (size >= 0 && size < cells.length) {
                cells[size] = number;
                size++;
            }
        }

        void set(int k, int number) {
            if (k >= 0 && k < size && k < cells.length) {
                cells[k] = number;
            }
        }

        /** Takes the last number away. */
        int drop() {
            int last = at(size - 1);
            cut(size - 1);
            return last;
        }

        int last() {
            return at(size - 1);
        }

        void cut(int many) {
            if (many >= 0 && many < size) {
                size = many;
            }
        }

        void clear() {
            size = 0;
        }

        void refill(int many, int number) {
            clear();
            for (int k = 0; k < many; k++) {
                add(number);
            }
        }

        /** So many numbers once more from another place on. */
        void repeat(int from, int to, int many) {
            if (many >= 0 && from >= 0 && to >= 0 && from <= size - many && to <= size - many && size <= cells.length) {
                System.arraycopy(cells, from, cells, to, many);
            }
        }

        int placeOf(int number) {
            for (int k = 0; k < size && k < cells.length; k++) {
                if (cells[k] == number) {
                    return k;
                }
            }
            return NONE;
        }
    }

    /**
     * The THINGS of a program in a row, each behind its parts, so that a loop over the row meets parts first
     * and no walk over a program needs to call itself. VARS: that of FUNCTION f is f, those of lets come behind.
     */
    private static final class Program {
        private final Row kinds = new Row(MOST_THINGS);
        private final Row values = new Row(MOST_THINGS);
        private final Row owners = new Row(MOST_THINGS);
        private final Row starts = new Row(MOST_THINGS);
        private final Row parts = new Row(MOST_THINGS * PARTS);
        private final Row siteThings = new Row(MOST_THINGS);
        private final Row varNames = new Row(MOST_VARS);
        private final Row binders = new Row(MOST_VARS);
        private final Row globalNames = new Row(MOST_GLOBALS);
        private final Row bodies = new Row(MOST_FUNCTIONS);
        private final Row newFunctions = new Row(MOST_FUNCTIONS);
        private final Row newThings = new Row(MOST_THINGS);
        private final Row newSites = new Row(MOST_THINGS);
        private int globals = 0;
        private int functions = 0;
        private int sites = 0;
        private int main = NONE;

        void clear() {
            kinds.clear();
            values.clear();
            owners.clear();
            starts.clear();
            parts.clear();
            siteThings.refill(MOST_THINGS, NONE);
            varNames.refill(MOST_VARS, 0);
            binders.refill(MOST_VARS, NONE);
            globalNames.clear();
            bodies.refill(MOST_FUNCTIONS, NONE);
            globals = 0;
            functions = 0;
            sites = 0;
            main = NONE;
        }

        void makeDead() {
            clear();
            main = add(DEAD, 0, NONE, NONE, NONE, NONE);
        }

        int things() {
            return kinds.size();
        }

        int kind(int thing) {
            return kinds.at(thing);
        }

        int value(int thing) {
            return values.at(thing);
        }

        /** The FUNCTION in whose EXPR a THING is written, NONE of MAIN. */
        int owner(int thing) {
            return owners.at(thing);
        }

        int part(int thing, int k) {
            return k >= 0 && k < PARTS ? parts.at(thing * PARTS + k) : NONE;
        }

        int home(int function) {
            return owner(binders.at(function));
        }

        int add(int kind, int value, int owner, int first, int second, int third) {
            int thing = kinds.size();
            kinds.add(kind);
            values.add(value);
            owners.add(owner);
            starts.add(first == NONE ? thing : starts.at(first));
            parts.add(first);
            parts.add(second);
            parts.add(third);
            if (kind == SITE) {
                siteThings.set(value, thing);
            } else if (kind == LET) {
                binders.set(value, thing);
            } else if (kind == LAMBDA) {
                binders.set(value, thing);
                bodies.set(value, first);
            }
            return thing;
        }

        /** The EXPR of a FUNCTION is the THINGS from its start on: what is bound elsewhere comes from outside. */
        void listFields(int function, Row fields) {
            fields.clear();
            int body = bodies.at(function);
            if (body == NONE) {
                return;
            }
            int start = starts.at(body);
            for (int thing = Math.max(start, 0); thing <= body && thing < MOST_THINGS; thing++) {
                int variable = values.at(thing);
                if (kinds.at(thing) == VARIABLE && variable != function && fields.placeOf(variable) == NONE) {
                    int binder = binders.at(variable);
                    if (binder < start || binder > body) {
                        fields.add(variable);
                    }
                }
            }
        }

        /** Takes over the FUNCTIONS that are kept, numbered anew; the EXPR of those that are not called is dead then. */
        void copy(Program from, int kept, int called) {
            clear();
            numberFunctions(from, kept);
            markThings(from, called);
            numberSites(from);
            for (int thing = 0; thing < from.things(); thing++) {
                if (newThings.at(thing) != NONE) {
                    newThings.set(thing, copyThing(from, thing, called));
                }
            }
            copyGlobals(from, called);
            main = newThings.at(from.main);
        }

        private void numberFunctions(Program from, int kept) {
            newFunctions.refill(MOST_FUNCTIONS, NONE);
            for (int f = 0; f < MOST_FUNCTIONS; f++) {
                if (hasBit(kept, f)) {
                    newFunctions.set(f, functions);
                    varNames.set(functions, from.varNames.at(f));
                    functions++;
                }
            }
            for (int v = MOST_FUNCTIONS; v < MOST_VARS; v++) {
                varNames.set(v, from.varNames.at(v));
            }
        }

        /** Marks what is written again: from each whole to its parts, the other way round through the row. */
        private void markThings(Program from, int called) {
            newThings.refill(from.things(), NONE);
            newThings.set(from.main, 0);
            for (int g = 0; g < from.globals; g++) {
                if (newFunctions.at(g) != NONE && hasBit(called, g)) {
                    newThings.set(from.bodies.at(g), 0);
                }
            }
            for (int thing = from.things() - 1; thing >= 0; thing--) {
                if (newThings.at(thing) != NONE && !losesBody(from, thing, called)) {
                    for (int k = 0; k < PARTS; k++) {
                        newThings.set(from.part(thing, k), 0);
                    }
                }
            }
        }

        private static boolean losesBody(Program from, int thing, int called) {
            return from.kinds.at(thing) == LAMBDA && !hasBit(called, from.values.at(thing));
        }

        private void numberSites(Program from) {
            newSites.refill(MOST_THINGS, NONE);
            for (int site = 0; site < from.sites; site++) {
                if (newThings.at(from.siteThings.at(site)) != NONE) {
                    newSites.set(site, sites);
                    sites++;
                }
            }
        }

        private int copyThing(Program from, int thing, int called) {
            int value = newValue(from.kind(thing), from.value(thing));
            int owner = newFunctions.at(from.owner(thing));
            if (losesBody(from, thing, called)) {
                int dead = add(DEAD, 0, value, NONE, NONE, NONE);
                return add(LAMBDA, value, owner, dead, NONE, NONE);
            }
            return add(from.kind(thing), value, owner, newThings.at(from.part(thing, 0)),
                newThings.at(from.part(thing, 1)), newThings.at(from.part(thing, 2)));
        }

        private int newValue(int kind, int value) {
            switch (kind) {
                case VARIABLE: return value < MOST_FUNCTIONS ? newFunctions.at(value) : value;
                case GLOBAL: return newFunctions.at(value);
                case LAMBDA: return newFunctions.at(value);
                case SITE: return newSites.at(value);
                default: return value;
            }
        }

        private void copyGlobals(Program from, int called) {
            for (int g = 0; g < from.globals; g++) {
                int number = newFunctions.at(g);
                if (number != NONE) {
                    globalNames.add(from.globalNames.at(g));
                    globals++;
                    bodies.set(number, hasBit(called, g)
                        ? newThings.at(from.bodies.at(g)) : add(DEAD, 0, number, NONE, NONE, NONE));
                }
            }
        }
    }

    /**
     * Reads a text. How many GLOBALS there are is not known while LAMBDAS begin, so LAMBDAS are numbered behind the
     * most GLOBALS here, and the program that is kept is a copy, numbered as it is due.
     */
    private static final class Reader {
        private static final int END = 0;
        private static final int DIGITS = 1;
        private static final int WORD = 2;
        private static final int WRONG = 3;
        private static final int FUN_WORD = 'f' << 16 | 'u' << 8 | 'n';
        private static final int IF_WORD = 'i' << 8 | 'f';
        private static final int THEN_WORD = 't' << 24 | 'h' << 16 | 'e' << 8 | 'n';
        private static final int ELSE_WORD = 'e' << 24 | 'l' << 16 | 's' << 8 | 'e';
        private static final int LET_WORD = 'l' << 16 | 'e' << 8 | 't';
        private static final int IN_WORD = 'i' << 8 | 'n';
        private static final int DEAD_WORD = 'd' << 24 | 'e' << 16 | 'a' << 8 | 'd';

        private final Program raw = new Program();
        private final Row text;
        private final Row scope = new Row(MOST_NESTED + 1);
        private int place = 0;
        private int token = END;
        private int tokenStart = 0;
        private int tokenValue = 0;
        private int wrongAt = NONE;
        private int nested = 0;
        private int things = 0;
        private int lambdas = 0;
        private int lets = 0;
        private int owner = NONE;

        Reader(Row text) {
            this.text = text;
        }

        /** Answers THE FAULT. */
        int parse() {
            clear();
            advance();
            for (int k = 0; k <= MOST_GLOBALS && token == FUN_WORD; k++) {
                global();
            }
            raw.main = expression();
            if (token != END) {
                fail();
            }
            return wrongAt;
        }

        /** The FUNCTIONS of the text that was read, in the numbers that they have here. */
        int told() {
            return (1 << raw.globals) - 1 | (1 << lambdas) - 1 << MOST_GLOBALS;
        }

        private void clear() {
            raw.clear();
            scope.clear();
            place = 0;
            wrongAt = NONE;
            nested = 0;
            things = 0;
            lambdas = 0;
            lets = 0;
            owner = NONE;
        }

        /** The first fault stays; behind it there are no more words, so that all that is open comes to its end. */
        private void fail() {
            if (wrongAt == NONE) {
                wrongAt = tokenStart;
            }
            token = WRONG;
        }

        private void advance() {
            if (wrongAt != NONE) {
                return;
            }
            for (int k = 0; k < MOST_BYTES && isBlank(text.at(place)); k++) {
                place++;
            }
            tokenStart = place;
            tokenValue = 0;
            for (int k = 0; k < MOST_BYTES && isLetter(text.at(place)); k++) {
                tokenValue = tokenValue << 8 | text.at(place);
                place++;
            }
            if (place > tokenStart) {
                token = isKeyword(tokenValue) ? tokenValue : WORD;
            } else {
                for (int k = 0; k < MOST_BYTES && isDigit(text.at(place)); k++) {
                    tokenValue = tokenValue * 10 + (text.at(place) - '0');
                    place++;
                }
                token = DIGITS;
            }
            if (place == tokenStart) {
                token = signAt(text.at(place));
                place++;
            } else if (place - tokenStart > MOST_LETTERS) {
                token = WRONG;
            }
        }

        private static boolean isBlank(int octet) {
            return octet == 9 || octet == 10 || octet == 32;
        }

        private static boolean isLetter(int octet) {
            return octet >= 'a' && octet <= 'z';
        }

        private static boolean isDigit(int octet) {
            return octet >= '0' && octet <= '9';
        }

        private static int signAt(int octet) {
            switch (octet) {
                case '\\': case '.': case '=': case ';': case '(': case ')':
                case '+': case '-': case '*': case '/': case '<':
                    return octet;
                case NONE:
                    return END;
                default:
                    return WRONG;
            }
        }

        private static boolean isKeyword(int name) {
            switch (name) {
                case FUN_WORD: case IF_WORD: case THEN_WORD: case ELSE_WORD:
                case LET_WORD: case IN_WORD: case DEAD_WORD:
                    return true;
                default:
                    return false;
            }
        }

        private void expect(int due) {
            if (token == due) {
                advance();
            } else {
                fail();
            }
        }

        private void countThing() {
            things++;
            if (things > MOST_THINGS) {
                fail();
            }
        }

        /** One more of ( \ if let lies within the others: false, and a fault, if it is one too many. */
        private boolean nest() {
            if (nested >= MOST_NESTED) {
                fail();
                return false;
            }
            nested++;
            return true;
        }

        private void global() {
            int number = raw.globals;
            if (number >= MOST_GLOBALS) {
                fail();
                return;
            }
            advance();
            if (token != WORD || raw.globalNames.placeOf(tokenValue) != NONE) {
                fail();
                return;
            }
            raw.globalNames.add(tokenValue);
            raw.globals++;
            advance();
            owner = number;
            nameVariable(number);
            scope.add(number);
            expect('=');
            raw.bodies.set(number, expression());
            expect(';');
            scope.clear();
            owner = NONE;
        }

        private void nameVariable(int variable) {
            if (token == WORD) {
                raw.varNames.set(variable, tokenValue);
            }
            expect(WORD);
        }

        private int expression() {
            switch (token) {
                case '\\': return lambda();
                case IF_WORD: return choice();
                case LET_WORD: return let();
                default: return test();
            }
        }

        private int lambda() {
            int number = MOST_GLOBALS + lambdas;
            int home = owner;
            countThing();
            if (lambdas >= MOST_LAMBDAS) {
                fail();
                return NONE;
            }
            if (!nest()) {
                return NONE;
            }
            lambdas++;
            advance();
            nameVariable(number);
            expect('.');
            scope.add(number);
            owner = number;
            int body = expression();
            owner = home;
            scope.drop();
            nested--;
            return raw.add(LAMBDA, number, owner, body, NONE, NONE);
        }

        private int choice() {
            countThing();
            if (!nest()) {
                return NONE;
            }
            advance();
            int first = expression();
            expect(THEN_WORD);
            int second = expression();
            expect(ELSE_WORD);
            int third = expression();
            nested--;
            return raw.add(CHOICE, 0, owner, first, second, third);
        }

        private int let() {
            int variable = MOST_FUNCTIONS + lets;
            countThing();
            if (!nest()) {
                return NONE;
            }
            lets++;
            advance();
            nameVariable(variable);
            expect('=');
            int ahead = expression();
            expect(IN_WORD);
            scope.add(variable);
            int behind = expression();
            scope.drop();
            nested--;
            return raw.add(LET, variable, owner, ahead, behind, NONE);
        }

        private int test() {
            int left = sum();
            if (token != '<') {
                return left;
            }
            startOperator();
            int right = sum();
            return raw.add(OPERATOR, '<', owner, left, right, NONE);
        }

        private int sum() {
            int left = product();
            for (int k = 0; k < MOST_THINGS && (token == '+' || token == '-'); k++) {
                int sign = token;
                startOperator();
                int right = product();
                left = raw.add(OPERATOR, sign, owner, left, right, NONE);
            }
            return left;
        }

        private int product() {
            int left = chain();
            for (int k = 0; k < MOST_THINGS && (token == '*' || token == '/'); k++) {
                int sign = token;
                startOperator();
                int right = chain();
                left = raw.add(OPERATOR, sign, owner, left, right, NONE);
            }
            return left;
        }

        private void startOperator() {
            countThing();
            advance();
        }

        /** A CALL of the grammar. */
        private int chain() {
            int left = atom();
            for (int k = 0; k < MOST_THINGS && startsAtom(); k++) {
                int number = raw.sites;
                countThing();
                raw.sites++;
                int argument = atom();
                left = raw.add(SITE, number, owner, left, argument, NONE);
            }
            return left;
        }

        private boolean startsAtom() {
            return token == DIGITS || token == WORD || token == DEAD_WORD || token == '(';
        }

        private int atom() {
            if (token == '(') {
                return inner();
            }
            if (token == DIGITS) {
                return leaf(NUMBER, tokenValue);
            }
            if (token == DEAD_WORD) {
                return leaf(DEAD, 0);
            }
            int variable = variableNamed(tokenValue);
            int global = raw.globalNames.placeOf(tokenValue);
            if (token == WORD && variable != NONE) {
                return leaf(VARIABLE, variable);
            }
            if (token == WORD && global != NONE) {
                return leaf(GLOBAL, global);
            }
            fail();
            return NONE;
        }

        private int leaf(int kind, int value) {
            countThing();
            advance();
            return raw.add(kind, value, owner, NONE, NONE, NONE);
        }

        private int inner() {
            if (!nest()) {
                return NONE;
            }
            advance();
            int within = expression();
            expect(')');
            nested--;
            return within;
        }

        /** The innermost VAR of a name of those that a WORD lies in. */
        private int variableNamed(int name) {
            for (int k = scope.size() - 1; k >= 0; k--) {
                if (raw.varNames.at(scope.at(k)) == name) {
                    return scope.at(k);
                }
            }
            return NONE;
        }
    }

    /** TYPES: each a number; a type that is made one with another is linked to it. */
    private static final class Typing {
        private static final int INT = 0;

        private final Row links = new Row(MOST_TYPES);
        private final Row takes = new Row(MOST_TYPES);
        private final Row gives = new Row(MOST_TYPES);
        private final Row shapes = new Row(MOST_TYPES);
        private final Row ofThing = new Row(MOST_THINGS);
        private final Row ofVar = new Row(MOST_VARS);
        private final Row ofFunction = new Row(MOST_FUNCTIONS);
        private final Row pairs = new Row(MOST_TYPES);
        private boolean clash = false;

        /** False if the program does not TYPE. */
        boolean infer(Program program) {
            clear(program);
            for (int thing = 0; thing < program.things(); thing++) {
                ofThing.add(typed(program, thing));
            }
            for (int g = 0; g < program.globals; g++) {
                unify(gives.at(ofFunction.at(g)), ofThing.at(program.bodies.at(g)));
            }
            return !clash && nameShapes();
        }

        private void clear(Program program) {
            clash = false;
            links.clear();
            takes.clear();
            gives.clear();
            ofThing.clear();
            ofVar.clear();
            ofFunction.clear();
            open();
            for (int v = 0; v < MOST_VARS; v++) {
                ofVar.add(open());
            }
            for (int f = 0; f < program.functions; f++) {
                ofFunction.add(arrow(ofVar.at(f), open()));
            }
        }

        private int open() {
            return arrow(NONE, NONE);
        }

        private int arrow(int taken, int given) {
            int made = links.size();
            links.add(made);
            takes.add(taken);
            gives.add(given);
            return made;
        }

        private int typed(Program program, int thing) {
            int first = ofThing.at(program.part(thing, 0));
            int second = ofThing.at(program.part(thing, 1));
            switch (program.kind(thing)) {
                case VARIABLE: return ofVar.at(program.value(thing));
                case GLOBAL: return ofFunction.at(program.value(thing));
                case DEAD: return open();
                case LAMBDA: {
                    int own = ofFunction.at(program.value(thing));
                    unify(gives.at(own), first);
                    return own;
                }
                case CHOICE:
                    unify(first, INT);
                    unify(second, ofThing.at(program.part(thing, 2)));
                    return second;
                case LET:
                    unify(ofVar.at(program.value(thing)), first);
                    return second;
                case OPERATOR:
                    unify(first, INT);
                    unify(second, INT);
                    return INT;
                case SITE: {
                    int given = open();
                    unify(first, arrow(second, given));
                    return given;
                }
                default: return INT;
            }
        }

        int root(int type) {
            int end = type;
            for (int k = 0; k < MOST_TYPES && links.at(end) != end; k++) {
                end = links.at(end);
            }
            return end;
        }

        boolean isInt(int type) {
            return root(type) == INT;
        }

        boolean isArrow(int root) {
            return takes.at(root) != NONE;
        }

        int taken(int root) {
            return takes.at(root);
        }

        int given(int root) {
            return gives.at(root);
        }

        private void unify(int one, int other) {
            pairs.clear();
            pairs.add(one);
            pairs.add(other);
            for (int k = 0; k < MANY && pairs.size() > 0; k++) {
                int right = root(pairs.drop());
                int left = root(pairs.drop());
                if (left == right) {
                    continue;
                }
                if (isOpen(left)) {
                    links.set(left, right);
                } else if (isOpen(right)) {
                    links.set(right, left);
                } else if (isArrow(left) && isArrow(right)) {
                    links.set(left, right);
                    pairs.add(takes.at(left));
                    pairs.add(takes.at(right));
                    pairs.add(gives.at(left));
                    pairs.add(gives.at(right));
                } else {
                    clash = true;
                }
            }
        }

        private boolean isOpen(int root) {
            return root != INT && takes.at(root) == NONE;
        }

        /**
         * Gives equal types one shape, parts ahead of wholes, so that types that are large when they are written
         * are compared at once. A type that lies in itself never gets one: false then.
         */
        private boolean nameShapes() {
            shapes.refill(links.size(), NONE);
            boolean more = true;
            for (int round = 0; round < MANY && more; round++) {
                more = false;
                for (int type = 0; type < links.size(); type++) {
                    if (links.at(type) == type && shapes.at(type) == NONE) {
                        shapes.set(type, shapeOf(type));
                        more = more || shapes.at(type) != NONE;
                    }
                }
            }
            for (int type = 0; type < links.size(); type++) {
                if (links.at(type) == type && shapes.at(type) == NONE) {
                    return false;
                }
            }
            return true;
        }

        private int shapeOf(int type) {
            if (!isArrow(type)) {
                return type;
            }
            int taken = shapes.at(root(takes.at(type)));
            int given = shapes.at(root(gives.at(type)));
            if (taken == NONE || given == NONE) {
                return NONE;
            }
            for (int other = 0; other < shapes.size(); other++) {
                if (shapes.at(other) == other && isArrow(other)
                    && shapes.at(root(takes.at(other))) == taken && shapes.at(root(gives.at(other))) == given) {
                    return other;
                }
            }
            return type;
        }

        boolean same(int f, int g) {
            return shapes.at(root(ofFunction.at(f))) == shapes.at(root(ofFunction.at(g)));
        }
    }

    /** COMES, MADE, CALLED, CALLS, RINGS; sets are bits by FUNCTION. */
    private static final class Flow {
        private final Row comes = new Row(MOST_THINGS);
        private final Row held = new Row(MOST_VARS);
        private final Row calls = new Row(MOST_FUNCTIONS);
        private final Row reached = new Row(MOST_FUNCTIONS);
        private final Row rings = new Row(MOST_FUNCTIONS);
        private int made = 0;
        private int called = 0;
        private boolean changed = false;

        void solve(Program program) {
            comes.refill(program.things(), 0);
            held.refill(MOST_VARS, 0);
            made = 0;
            called = 0;
            changed = true;
            for (int round = 0; round < MANY && changed; round++) {
                changed = false;
                for (int thing = 0; thing < program.things(); thing++) {
                    if (looked(program.owner(thing))) {
                        look(program, thing);
                    }
                }
            }
            listCalls(program);
            closeCalls(program);
            listRings(program);
        }

        /** Whether the EXPR of a FUNCTION (NONE: MAIN) is LOOKED at. */
        boolean looked(int owner) {
            return owner == NONE || hasBit(called, owner);
        }

        private void look(Program program, int thing) {
            int got = 0;
            switch (program.kind(thing)) {
                case VARIABLE:
                    got = held.bits(program.value(thing));
                    break;
                case GLOBAL:
                case LAMBDA:
                    got = bit(program.value(thing));
                    made |= got;
                    break;
                case CHOICE:
                    got = comes.bits(program.part(thing, 1)) | comes.bits(program.part(thing, 2));
                    break;
                case LET:
                    hold(program.value(thing), comes.bits(program.part(thing, 0)));
                    got = comes.bits(program.part(thing, 1));
                    break;
                case SITE:
                    got = lookAtSite(program, thing);
                    break;
                default:
                    break;
            }
            if (got != comes.bits(thing)) {
                comes.set(thing, got);
                changed = true;
            }
        }

        private int lookAtSite(Program program, int thing) {
            int got = 0;
            int applied = comes.bits(program.part(thing, 0));
            for (int f = 0; f < program.functions; f++) {
                if (hasBit(applied, f)) {
                    if (!hasBit(called, f)) {
                        called |= bit(f);
                        changed = true;
                    }
                    hold(f, comes.bits(program.part(thing, 1)));
                    got |= comesOfBody(program, f);
                }
            }
            return got;
        }

        private void hold(int variable, int more) {
            int all = held.bits(variable) | more;
            if (all != held.bits(variable)) {
                held.set(variable, all);
                changed = true;
            }
        }

        /** What comes as what is applied at the SITE that a THING is. */
        int applied(Program program, int thing) {
            return comes.bits(program.part(thing, 0));
        }

        int comesOfBody(Program program, int f) {
            return comes.bits(program.bodies.at(f));
        }

        int escapes(Program program) {
            return comes.bits(program.main);
        }

        private void listCalls(Program program) {
            calls.refill(program.functions, 0);
            for (int site = 0; site < program.sites; site++) {
                int thing = program.siteThings.at(site);
                int owner = program.owner(thing);
                calls.set(owner, calls.bits(owner) | applied(program, thing));
            }
        }

        /** What is reached by one or more CALLS: in turn, by way of each FUNCTION. */
        private void closeCalls(Program program) {
            reached.clear();
            for (int f = 0; f < program.functions; f++) {
                reached.add(calls.bits(f));
            }
            for (int way = 0; way < program.functions; way++) {
                for (int f = 0; f < program.functions; f++) {
                    if (hasBit(reached.bits(f), way)) {
                        reached.set(f, reached.bits(f) | reached.bits(way));
                    }
                }
            }
        }

        private void listRings(Program program) {
            rings.clear();
            for (int f = 0; f < program.functions; f++) {
                if (hasBit(reached.bits(f), f) && ringOf(f) == NONE) {
                    rings.add(ringFrom(program, f));
                }
            }
        }

        private int ringFrom(Program program, int f) {
            int members = 0;
            for (int g = 0; g < program.functions; g++) {
                if (hasBit(reached.bits(f), g) && hasBit(reached.bits(g), f)) {
                    members |= bit(g);
                }
            }
            return members;
        }

        int ringOf(int f) {
            for (int k = 0; k < rings.size(); k++) {
                if (hasBit(rings.bits(k), f)) {
                    return k;
                }
            }
            return NONE;
        }

        int distance(int f, int g) {
            if (!hasBit(called, f) || !hasBit(called, g)) {
                return NONE;
            }
            int near = bit(f);
            for (int steps = 0; steps < MOST_FUNCTIONS; steps++) {
                if (hasBit(near, g)) {
                    return steps;
                }
                near |= callsOf(near);
            }
            return NONE;
        }

        private int callsOf(int callers) {
            int all = 0;
            for (int f = 0; f < calls.size(); f++) {
                if (hasBit(callers, f)) {
                    all |= calls.bits(f);
                }
            }
            return all;
        }

        int countSitesOf(Program program, int f) {
            int many = 0;
            for (int site = 0; site < program.sites; site++) {
                many += oneIf(hasBit(applied(program, program.siteThings.at(site)), f));
            }
            return many;
        }

        int countLooked(Program program) {
            int many = 0;
            for (int site = 0; site < program.sites; site++) {
                many += oneIf(looked(program.owner(program.siteThings.at(site))));
            }
            return many;
        }

        int countKnown(Program program) {
            int many = 0;
            for (int site = 0; site < program.sites; site++) {
                many += oneIf(Integer.bitCount(applied(program, program.siteThings.at(site))) == 1);
            }
            return many;
        }
    }

    /** GROUPS by each split: the k-th of a split stands at split * MOST_FUNCTIONS + k. */
    private static final class Groups {
        private final Row sets = new Row(SPLITS * MOST_FUNCTIONS);
        private final Row manies = new Row(SPLITS);
        private final Row mates = new Row(MOST_FUNCTIONS);

        void sort(Program program, Typing typing, Flow flow) {
            sets.refill(SPLITS * MOST_FUNCTIONS, 0);
            manies.refill(SPLITS, 0);
            mates.refill(program.functions, flow.made);
            number(0, flow.made);
            mateByType(program, typing, flow.made);
            number(1, flow.made);
            mateBySites(program, flow);
            number(2, flow.made);
        }

        private void mateByType(Program program, Typing typing, int made) {
            for (int f = 0; f < program.functions; f++) {
                int alike = 0;
                for (int g = 0; g < program.functions; g++) {
                    if (hasBit(made, g) && typing.same(f, g)) {
                        alike |= bit(g);
                    }
                }
                mates.set(f, alike);
            }
        }

        private void mateBySites(Program program, Flow flow) {
            for (int f = 0; f < program.functions; f++) {
                mates.set(f, bit(f));
            }
            for (int site = 0; site < program.sites; site++) {
                int together = flow.applied(program, program.siteThings.at(site));
                for (int f = 0; f < program.functions; f++) {
                    if (hasBit(together, f)) {
                        together |= mates.bits(f);
                    }
                }
                for (int f = 0; f < program.functions; f++) {
                    if (hasBit(together, f)) {
                        mates.set(f, together);
                    }
                }
            }
        }

        /** Each FUNCTION that is the least among its mates begins a GROUP. */
        private void number(int split, int made) {
            for (int f = 0; f < mates.size(); f++) {
                if (hasBit(made, f) && lowest(mates.bits(f)) == f) {
                    sets.set(split * MOST_FUNCTIONS + many(split), mates.bits(f));
                    manies.set(split, many(split) + 1);
                }
            }
        }

        int many(int split) {
            return manies.bits(split);
        }

        int members(int split, int k) {
            return k >= 0 && k < many(split) ? sets.bits(split * MOST_FUNCTIONS + k) : 0;
        }

        int groupOf(int split, int f) {
            for (int k = 0; k < manies.bits(split); k++) {
                if (hasBit(sets.bits(split * MOST_FUNCTIONS + k), f)) {
                    return k;
                }
            }
            return NONE;
        }

        int manyWithCases(int split, int called) {
            int having = 0;
            for (int k = 0; k < many(split); k++) {
                having += oneIf((members(split, k) & called) != 0);
            }
            return having;
        }

        int mostCases(int split, int called) {
            int most = 0;
            for (int k = 0; k < many(split); k++) {
                most = Math.max(most, Integer.bitCount(members(split, k) & called));
            }
            return most;
        }

        int allCases(int split, int called) {
            int all = 0;
            for (int k = 0; k < many(split); k++) {
                all |= members(split, k) & called;
            }
            return all;
        }
    }

    /** A program and all that is known of it. */
    private static final class Scene {
        private final Program program = new Program();
        private final Typing typing = new Typing();
        private final Flow flow = new Flow();
        private final Groups groups = new Groups();

        /** False if the program does not TYPE. */
        boolean settle() {
            if (!typing.infer(program)) {
                return false;
            }
            flow.solve(program);
            groups.sort(program, typing, flow);
            return true;
        }
    }

    /**
     * RUNS. As there are few STEPS, each has a frame of its own, which stays: a FUNCTION that is handed on is its
     * number and the frame in which it was made. TYPES keep it apart from the NUMBERS.
     */
    private static final class Machine {
        private static final int LEAVE = NONE;
        private static final int PHASES = 4;
        // A THING with parts that is not done yet has another part beside it: half of all THINGS wait at the most.
        private static final int MOST_WAITING = (MOST_STEPS + 1) * (MOST_THINGS / 2 + 2);

        private final Row frames = new Row((MOST_STEPS + 1) * MOST_VARS);
        private final Row tasks = new Row(MOST_WAITING);
        private final Row values = new Row(MOST_WAITING);
        private final Row inside = new Row(MOST_STEPS);
        private final Row framesInside = new Row(MOST_STEPS);
        // Much is asked of one RUN, a number at a time: it is kept while the program is.
        private int performed = NONE;
        private int applicable = 0;
        private int ending = NONE;
        private int result = 0;
        private int steps = 0;
        private int deep = 0;
        private int entered = 0;

        Machine() {
            frames.refill((MOST_STEPS + 1) * MOST_VARS, 0);
        }

        /** How 0 runs the program, where every FUNCTION can be applied, others a form, where those can that are CASES. */
        void perform(Scene scene, int how) {
            if (performed == how) {
                return;
            }
            performed = how;
            clear();
            applicable = how == 0 ? NONE : scene.groups.allCases(how - 1, scene.flow.called);
            begin(scene.program.main, 0);
            for (int k = 0; k < MANY && ending == NONE && tasks.size() > 0; k++) {
                int task = tasks.drop();
                if (task == LEAVE) {
                    inside.drop();
                    framesInside.drop();
                } else {
                    go(scene.program, task / PHASES, task % PHASES);
                }
            }
            if (ending == NONE) {
                finish(scene.typing.isInt(scene.typing.ofThing.at(scene.program.main)));
            }
        }

        void forget() {
            performed = NONE;
        }

        private void clear() {
            tasks.clear();
            values.clear();
            inside.clear();
            framesInside.clear();
            ending = NONE;
            result = 0;
            steps = 0;
            deep = 0;
            entered = 0;
        }

        private void finish(boolean isNumber) {
            int value = values.drop();
            ending = isNumber ? ENDS_NUMBER : ENDS_FUNCTION;
            result = isNumber ? value : functionOf(value);
        }

        int blamed(int k) {
            return k >= 0 && k < inside.size() ? inside.at(inside.size() - 1 - k) : NONE;
        }

        private void begin(int thing, int phase) {
            tasks.add(thing * PHASES + phase);
        }

        /** The part comes next, then the THING itself in its next phase. */
        private void beginPart(Program program, int thing, int part) {
            begin(thing, part + 1);
            begin(program.part(thing, part), 0);
        }

        private int frame() {
            return Math.max(framesInside.last(), 0);
        }

        private int handed(int function) {
            return frame() * 32 + function;
        }

        private static int functionOf(int handed) {
            return handed & 31;
        }

        private void go(Program program, int thing, int phase) {
            switch (program.kind(thing)) {
                case NUMBER:
                    values.add(program.value(thing));
                    break;
                case VARIABLE:
                    values.add(frames.at(frame() * MOST_VARS + program.value(thing)));
                    break;
                case GLOBAL:
                case LAMBDA:
                    values.add(handed(program.value(thing)));
                    break;
                case CHOICE:
                    goChoice(program, thing, phase);
                    break;
                case LET:
                    goLet(program, thing, phase);
                    break;
                case OPERATOR:
                    goOperator(program, thing, phase);
                    break;
                case SITE:
                    goSite(program, thing, phase);
                    break;
                default:
                    ending = ENDS_DEAD;
                    break;
            }
        }

        private void goChoice(Program program, int thing, int phase) {
            if (phase == 0) {
                beginPart(program, thing, 0);
            } else {
                begin(program.part(thing, values.drop() != 0 ? 1 : 2), 0);
            }
        }

        private void goLet(Program program, int thing, int phase) {
            if (phase == 0) {
                beginPart(program, thing, 0);
            } else {
                frames.set(frame() * MOST_VARS + program.value(thing), values.drop());
                begin(program.part(thing, 1), 0);
            }
        }

        private void goOperator(Program program, int thing, int phase) {
            if (phase < 2) {
                beginPart(program, thing, phase);
                return;
            }
            int right = values.drop();
            int left = values.drop();
            switch (program.value(thing)) {
                case '+': values.add(left + right); break;
                case '-': values.add(left - right); break;
                case '*': values.add(left * right); break;
                case '<': values.add(oneIf(left < right)); break;
                default: divide(left, right); break;
            }
        }

        private void divide(int left, int right) {
            if (right == 0) {
                ending = ENDS_DIVISION;
            } else {
                values.add(left / right);
            }
        }

        private void goSite(Program program, int thing, int phase) {
            if (phase < 2) {
                beginPart(program, thing, phase);
                return;
            }
            int argument = values.drop();
            int applied = values.drop();
            if (!hasBit(applicable, functionOf(applied))) {
                ending = ENDS_CASE;
            } else if (steps >= MOST_STEPS) {
                ending = ENDS_STEPS;
            } else {
                enter(program, applied, argument);
            }
        }

        private void enter(Program program, int applied, int argument) {
            int function = functionOf(applied);
            steps++;
            frames.repeat((applied >>> 5) * MOST_VARS, steps * MOST_VARS, MOST_VARS);
            frames.set(steps * MOST_VARS + function, argument);
            inside.add(function);
            framesInside.add(steps);
            deep = Math.max(deep, inside.size());
            entered |= bit(function);
            tasks.add(LEAVE);
            begin(program.bodies.at(function), 0);
        }
    }

    /** Writes what is SHOWN. */
    private static final class Writer {
        private static final int PHASES = 4;

        private final Row out;
        private final Row waiting = new Row(MOST_TYPE_BYTES * PHASES);
        private final Row openTypes = new Row(MOST_TYPE_BYTES);
        private final Row fields = new Row(MOST_VARS);
        // The split of the form that is written, NONE when it is the program itself.
        private int formSplit = NONE;

        Writer(Row out) {
            this.out = out;
        }

        int showName(int name) {
            out.clear();
            putName(name);
            return out.size();
        }

        int showProgram(Scene scene) {
            out.clear();
            formSplit = NONE;
            Program program = scene.program;
            for (int g = 0; g < program.globals; g++) {
                putText("fun ");
                putName(program.globalNames.at(g));
                putText(" ");
                putName(program.varNames.at(g));
                putText("=");
                putExpression(scene, program.bodies.at(g));
                putText(";");
            }
            putExpression(scene, program.main);
            return out.size();
        }

        int showForm(Scene scene, int split) {
            out.clear();
            formSplit = split;
            for (int k = 0; k < scene.groups.many(split); k++) {
                int cases = scene.groups.members(split, k) & scene.flow.called;
                for (int f = 0; f < scene.program.functions; f++) {
                    if (hasBit(cases, f)) {
                        putCaseStart(scene.program, f, f == lowest(cases) ? k : NONE);
                        putExpression(scene, scene.program.bodies.at(f));
                    }
                }
                putText(cases == 0 ? "" : "}");
            }
            putExpression(scene, scene.program.main);
            return out.size();
        }

        /** The first CASE of a GROUP comes with the GROUP's number, others with NONE. */
        private void putCaseStart(Program program, int f, int group) {
            if (group == NONE) {
                putText("|");
            } else {
                putText("a");
                putNumber(group);
                putText(":{");
            }
            putData(program, f);
            putName(program.varNames.at(f));
            putText(".");
        }

        /** Each THING waits with the number of parts of it that are written: first what stands ahead of the next part. */
        private void putExpression(Scene scene, int whole) {
            waiting.clear();
            waiting.add(whole * PHASES);
            for (int k = 0; k < MANY && waiting.size() > 0; k++) {
                int task = waiting.drop();
                int thing = task / PHASES;
                int phase = task % PHASES;
                putPiece(scene, thing, phase);
                int part = nextPart(scene.program, thing, phase);
                if (part != NONE) {
                    waiting.add(thing * PHASES + phase + 1);
                    waiting.add(part * PHASES);
                }
            }
        }

        private int nextPart(Program program, int thing, int phase) {
            boolean isData = formSplit != NONE && program.kind(thing) == LAMBDA;
            return isData ? NONE : program.part(thing, phase);
        }

        private void putPiece(Scene scene, int thing, int phase) {
            Program program = scene.program;
            int value = program.value(thing);
            switch (program.kind(thing)) {
                case NUMBER: putNumber(value); break;
                case VARIABLE: putName(program.varNames.at(value)); break;
                case GLOBAL: case LAMBDA:
                    if (formSplit != NONE) {
                        putData(program, value);
                    } else if (program.kind(thing) == GLOBAL) {
                        putName(program.globalNames.at(value));
                    } else {
                        putLambda(program, value, phase);
                    }
                    break;
                case CHOICE: putText(choicePiece(phase)); break;
                case LET: putLet(program, value, phase); break;
                case OPERATOR: putOperator(value, phase); break;
                case SITE: putSite(scene, thing, phase); break;
                default: putText("dead"); break;
            }
        }

        private void putLambda(Program program, int f, int phase) {
            if (phase == 0) {
                putText("(\\");
                putName(program.varNames.at(f));
                putText(".");
            } else {
                putText(")");
            }
        }

        private void putData(Program program, int f) {
            putText("C");
            putNumber(f);
            putText("(");
            program.listFields(f, fields);
            for (int k = 0; k < fields.size(); k++) {
                putText(k == 0 ? "" : ",");
                putName(program.varNames.at(fields.at(k)));
            }
            putText(")");
        }

        private static String choicePiece(int phase) {
            switch (phase) {
                case 0: return "(if ";
                case 1: return " then ";
                case 2: return " else ";
                default: return ")";
            }
        }

        private void putLet(Program program, int variable, int phase) {
            if (phase == 0) {
                putText("(let ");
                putName(program.varNames.at(variable));
                putText("=");
            } else {
                putText(phase == 1 ? " in " : ")");
            }
        }

        private void putOperator(int sign, int phase) {
            if (phase == 1) {
                out.add(sign);
            } else {
                putText(phase == 0 ? "(" : ")");
            }
        }

        private void putSite(Scene scene, int thing, int phase) {
            if (phase == 0 && formSplit != NONE) {
                int applied = scene.flow.applied(scene.program, thing);
                putText(applied == 0 ? "an" : "a");
                if (applied != 0) {
                    putNumber(scene.groups.groupOf(formSplit, lowest(applied)));
                }
            }
            if (phase == 1) {
                putText(formSplit != NONE ? "," : " ");
            } else {
                putText(phase == 0 ? "(" : ")");
            }
        }

        private void putText(String text) {
            for (int k = 0; k < text.length(); k++) {
                out.add(text.charAt(k));
            }
        }

        /** A name is its letters, eight bits each, the last one lowest. */
        private void putName(int name) {
            for (int shift = 24; shift >= 0; shift -= 8) {
                if ((name >>> shift & 255) != 0) {
                    out.add(name >>> shift & 255);
                }
            }
        }

        private void putNumber(int number) {
            boolean begun = false;
            for (int unit = 1000; unit > 0; unit /= 10) {
                begun = begun || unit == 1 || number >= unit;
                if (begun) {
                    out.add('0' + number / unit % 10);
                }
            }
        }

        int showType(Typing typing, int type) {
            out.clear();
            openTypes.clear();
            waiting.clear();
            waiting.add(type);
            for (int k = 0; k < MANY && waiting.size() > 0 && out.size() < MOST_TYPE_BYTES; k++) {
                int next = waiting.drop();
                if (next < 0) {
                    out.add(-next);
                } else {
                    putType(typing, typing.root(next));
                }
            }
            return out.size();
        }

        /** Signs wait among the types as numbers below 0. */
        private void putType(Typing typing, int root) {
            if (typing.isInt(root)) {
                out.add('i');
            } else if (typing.isArrow(root)) {
                out.add('(');
                waiting.add(-')');
                waiting.add(typing.given(root));
                waiting.add(-'>');
                waiting.add(typing.taken(root));
            } else {
                if (openTypes.placeOf(root) == NONE) {
                    openTypes.add(root);
                }
                out.add(Math.min('a' + openTypes.placeOf(root), 'z'));
            }
        }
    }
}
