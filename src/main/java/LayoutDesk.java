import java.util.NoSuchElementException;

/**
 * A layout desk: a script tells regions of memory, sections that are put together of inputs, where
 * they run and where they are loaded, and symbols that are reckoned of one another in whatever
 * order; a table of copies then brings every section to its place.
 *
 * <p>All rows are made with the object and used again: no call makes an object of its own.
 */
public final class LayoutDesk {
    private static final int INPUTS = 8;
    private static final int REGIONS = 4;
    private static final int SECTIONS = 8;
    private static final int SYMBOLS = 18;
    private static final int FIRST_SYMBOL = 8;

    private static final int MEMORY_SIZE = 512;
    private static final int UNTOUCHED = 170;
    private static final int SCRIPT_LIMIT = 160;
    private static final int TYPED_LIMIT = 8;
    private static final int INPUT_SIZE_LIMIT = 40;
    private static final int INPUT_ALIGN_LIMIT = 16;
    private static final int ALIGN_LIMIT = 64;
    private static final int DIGIT_LIMIT = 4;
    private static final int BRACKET_LIMIT = 5;
    private static final int VALUE_LIMIT = 100000;

    private static final int MALFORMED = 1;
    private static final int UNKNOWN = 2;
    private static final int OVERFLOW = 3;
    private static final int OVERLAP = 4;
    private static final int CLASH = 5;

    /** Stands for a value that is not reckoned; no value that is reckoned comes near it. */
    private static final int NOT_YET = -1000000000;
    private static final int NOWHERE = -1;

    private static final int STEP_NUMBER = 0;
    private static final int STEP_SYMBOL = 1;
    private static final int STEP_ADDRESS = 2;
    private static final int STEP_LOADED = 3;
    private static final int STEP_SIZE = 4;
    private static final int STEP_PLUS = 5;
    private static final int STEP_MINUS = 6;
    private static final int STEP_RAISE = 7;

    private static final int ITEM_INPUT = 0;
    private static final int ITEM_ALIGN = 1;
    private static final int ITEM_SYMBOL = 2;

    private final Script script;
    private final Plan plan;
    private final Reader reader;
    private final Reckoner reckoner;
    private final Judge judge;
    private final Memory memory;
    private boolean laid;
    private int badPlace;

    public LayoutDesk() {
        script = new Script();
        plan = new Plan();
        reader = new Reader(script, plan);
        reckoner = new Reckoner(plan);
        judge = new Judge(plan);
        memory = new Memory();
        laid = false;
        badPlace = NOWHERE;
    }

    public void input(int k, int size, int align, int seed) throws IllegalArgumentException {
        if (k < 0 || k >= INPUTS || size < 0 || size > INPUT_SIZE_LIMIT) {
            throw new IllegalArgumentException();
        }
        if (!isAlignment(align, INPUT_ALIGN_LIMIT) || seed < 0 || seed > 255) {
            throw new IllegalArgumentException();
        }
        Input told = plan.inputs[k];
        told.size = size;
        told.align = align;
        told.seed = seed;
        laid = false;
    }

    public int type(long text, int n) throws IllegalArgumentException, IllegalStateException {
        if (n < 1 || n > TYPED_LIMIT || !allCanBeTyped(text, n)) {
            throw new IllegalArgumentException();
        }
        if (script.length + n > SCRIPT_LIMIT) {
            throw new IllegalStateException();
        }
        for (int i = n - 1; i >= 0; i--) {
            script.append(byteOf(text, i));
        }
        laid = false;
        return script.length;
    }

    public void clear() {
        script.length = 0;
        laid = false;
    }

    public int lay() {
        laid = false;
        badPlace = reader.readScript();
        if (badPlace != NOWHERE) {
            return MALFORMED;
        }
        if (!reckoner.reckonAll()) {
            return UNKNOWN;
        }
        if (judge.overflows()) {
            return OVERFLOW;
        }
        if (judge.overlaps()) {
            return OVERLAP;
        }
        plan.listCopies();
        if (judge.copiesClash()) {
            return CLASH;
        }
        laid = true;
        return 0;
    }

    public int bad() {
        return badPlace;
    }

    public int section(int t, int what)
            throws IllegalArgumentException, IllegalStateException, NoSuchElementException {
        needOneOfThree(what);
        needLayout();
        if (t < 0 || t >= SECTIONS || !plan.sections[t].told) {
            throw new NoSuchElementException();
        }
        Section asked = plan.sections[t];
        if (what == 0) {
            return asked.address;
        }
        return what == 1 ? asked.size : asked.loadedAt;
    }

    public int put(int k) throws IllegalArgumentException, IllegalStateException {
        if (k < 0 || k >= INPUTS) {
            throw new IllegalArgumentException();
        }
        needLayout();
        return plan.inputs[k].place;
    }

    public int symbol(int v)
            throws IllegalArgumentException, IllegalStateException, NoSuchElementException {
        int number = v - FIRST_SYMBOL;
        if (v < FIRST_SYMBOL || number >= SYMBOLS) {
            throw new IllegalArgumentException();
        }
        needLayout();
        if (!plan.symbols[number].told) {
            throw new NoSuchElementException();
        }
        return plan.symbols[number].value;
    }

    public int copies() throws IllegalStateException {
        needLayout();
        return plan.copyCount;
    }

    public int copy(int k, int what)
            throws IllegalArgumentException, IllegalStateException, NoSuchElementException {
        needOneOfThree(what);
        needLayout();
        if (k < 0 || k >= plan.copyCount) {
            throw new NoSuchElementException();
        }
        Section copied = plan.copiedAt(k);
        if (what == 0) {
            return copied.loadedAt;
        }
        return what == 1 ? copied.address : copied.size;
    }

    public void load() throws IllegalStateException {
        needLayout();
        memory.fill(0, MEMORY_SIZE, UNTOUCHED);
        for (int position = 0; position < plan.sectionCount; position++) {
            Section loaded = plan.sectionAt(position);
            if (loaded.isLoaded) {
                bringIn(loaded);
            }
        }
    }

    public void start() throws IllegalStateException {
        needLayout();
        for (int k = 0; k < plan.copyCount; k++) {
            Section copied = plan.copiedAt(k);
            memory.move(copied.loadedAt, copied.address, copied.size);
        }
        for (int position = 0; position < plan.sectionCount; position++) {
            Section blank = plan.sectionAt(position);
            if (!blank.isLoaded) {
                memory.fill(blank.address, blank.size, 0);
            }
        }
    }

    public int memory(int a) throws IndexOutOfBoundsException {
        if (a < 0 || a >= MEMORY_SIZE) {
            throw new IndexOutOfBoundsException();
        }
        return memory.fetch(a);
    }

    private void needLayout() {
        if (!laid) {
            throw new IllegalStateException();
        }
    }

    private void bringIn(Section loaded) {
        memory.fill(loaded.loadedAt, loaded.size, 0);
        for (int i = loaded.itemsFrom; i < loaded.itemsTo; i++) {
            if (plan.items.kinds[i] == ITEM_INPUT) {
                Input part = plan.inputs[plan.items.values[i]];
                memory.bring(part, loaded.loadedAt + part.place - loaded.address);
            }
        }
    }

    private static void needOneOfThree(int what) {
        if (what < 0 || what > 2) {
            throw new IllegalArgumentException();
        }
    }

    private static boolean allCanBeTyped(long text, int n) {
        for (int i = 0; i < n; i++) {
            int c = byteOf(text, i);
            if (c < 33 || c > 126) {
                return false;
            }
        }
        return true;
    }

    private static int byteOf(long text, int i) {
        return (int) (text >>> (8 * i)) & 255;
    }

    private static boolean isAlignment(int number, int limit) {
        return number >= 1 && number <= limit && (number & (number - 1)) == 0;
    }

    /** The least multiple that is not below the place; the mask makes this hold below 0 too. */
    private static int raise(int place, int align) {
        return (place + align - 1) & -align;
    }

    /** What the script says, as it was typed. */
    private static final class Script {
        private final char[] text = new char[SCRIPT_LIMIT];
        private int length = 0;

        void append(int c) {
            if (length < SCRIPT_LIMIT) {
                text[length] = (char) c;
                length++;
            }
        }
    }

    private static final class Input {
        private int size = 0;
        private int align = 1;
        private int seed = 0;
        private boolean stands = false;
        private int place = NOWHERE;

        void forget() {
            stands = false;
            place = NOWHERE;
        }
    }

    private static final class Region {
        private boolean told = false;
        private int origin = 0;
        private int length = 0;

        boolean holds(int begin, int size) {
            return begin >= origin && begin + size <= origin + length;
        }
    }

    private static final class Section {
        private boolean told = false;
        private boolean hasAddress = false;
        private int stepsFrom = 0;
        private int stepsTo = 0;
        private int itemsFrom = 0;
        private int itemsTo = 0;
        private int home = NOWHERE;
        private boolean isLoaded = true;
        private int loadHome = NOWHERE;
        private int address = NOT_YET;
        private int size = NOT_YET;
        private int loadedAt = NOT_YET;

        void forget() {
            told = false;
            hasAddress = false;
            home = NOWHERE;
            isLoaded = true;
            loadHome = NOWHERE;
            address = NOT_YET;
            size = NOT_YET;
            loadedAt = NOT_YET;
        }

        boolean isKnown() {
            return size != NOT_YET;
        }
    }

    private static final class Symbol {
        private boolean told = false;
        private boolean hasSteps = false;
        private int stepsFrom = 0;
        private int stepsTo = 0;
        private int value = NOT_YET;

        void forget() {
            told = false;
            hasSteps = false;
            value = NOT_YET;
        }
    }

    /** Pairs of a kind and a value; each takes a character of the script at least. */
    private static final class Rows {
        private final int[] kinds = new int[SCRIPT_LIMIT];
        private final int[] values = new int[SCRIPT_LIMIT];
        private int count = 0;

        void add(int kind, int value) {
            if (count < SCRIPT_LIMIT) {
                kinds[count] = kind;
                values[count] = value;
                count++;
            }
        }
    }

    /** What the script tells, and what is reckoned of it. */
    private static final class Plan {
        private final Input[] inputs = new Input[INPUTS];
        private final Region[] regions = new Region[REGIONS];
        private final Section[] sections = new Section[SECTIONS];
        private final Symbol[] symbols = new Symbol[SYMBOLS];
        private final Rows items = new Rows();
        /** Expressions, a number before the sign that takes it, so that none needs recursion. */
        private final Rows steps = new Rows();
        private final int[] order = new int[SECTIONS];
        private int sectionCount = 0;
        private final int[] copied = new int[SECTIONS];
        private int copyCount = 0;

        Plan() {
            for (int k = 0; k < INPUTS; k++) {
                inputs[k] = new Input();
            }
            for (int r = 0; r < REGIONS; r++) {
                regions[r] = new Region();
            }
            for (int t = 0; t < SECTIONS; t++) {
                sections[t] = new Section();
            }
            for (int v = 0; v < SYMBOLS; v++) {
                symbols[v] = new Symbol();
            }
        }

        void forget() {
            for (int k = 0; k < INPUTS; k++) {
                inputs[k].forget();
            }
            for (int r = 0; r < REGIONS; r++) {
                regions[r].told = false;
            }
            for (int t = 0; t < SECTIONS; t++) {
                sections[t].forget();
            }
            for (int v = 0; v < SYMBOLS; v++) {
                symbols[v].forget();
            }
            items.count = 0;
            steps.count = 0;
            sectionCount = 0;
            copyCount = 0;
        }

        void tellSection(int t) {
            if (sectionCount < SECTIONS) {
                sections[t].told = true;
                order[sectionCount] = t;
                sectionCount++;
            }
        }

        Section sectionAt(int position) {
            return sections[order[position]];
        }

        Section copiedAt(int k) {
            return sections[copied[k]];
        }

        void listCopies() {
            copyCount = 0;
            for (int position = 0; position < sectionCount; position++) {
                Section s = sectionAt(position);
                if (s.isLoaded && s.loadedAt != s.address && s.size > 0) {
                    copied[copyCount] = order[position];
                    copyCount++;
                }
            }
        }
    }

    /**
     * Reads the script into the plan. What reads a part answers whether it could; when it could
     * not, the place come to is the one of the first character that can't stand there.
     */
    private static final class Reader {
        private final Script script;
        private final Plan plan;
        private int place = 0;
        private int number = 0;

        Reader(Script script, Plan plan) {
            this.script = script;
            this.plan = plan;
        }

        int readScript() {
            plan.forget();
            place = 0;
            for (int n = 0; n < SCRIPT_LIMIT && place < script.length; n++) {
                boolean fine = false;
                if (skip('M')) {
                    fine = readRegion();
                } else if (skip('S')) {
                    fine = readSection();
                } else if (skip('Y')) {
                    fine = readSymbol();
                }
                if (!fine || !skip(';')) {
                    return place;
                }
            }
            return NOWHERE;
        }

        private boolean readRegion() {
            int r = letter('A', REGIONS);
            if (r < 0 || plan.regions[r].told) {
                return false;
            }
            place++;
            if (!skip('=') || !readNumber()) {
                return false;
            }
            int origin = number;
            if (!skip(',') || !readNumber() || origin + number > MEMORY_SIZE) {
                return false;
            }
            Region region = plan.regions[r];
            region.told = true;
            region.origin = origin;
            region.length = number;
            return true;
        }

        private boolean readSection() {
            int t = letter('A', SECTIONS);
            if (t < 0 || plan.sections[t].told) {
                return false;
            }
            place++;
            plan.tellSection(t);
            Section s = plan.sections[t];
            if (skip('@')) {
                s.hasAddress = true;
                s.stepsFrom = plan.steps.count;
                if (!readExpression(0)) {
                    return false;
                }
                s.stepsTo = plan.steps.count;
            }
            return skip('{') && readItems(s) && skip('}') && skip('>') && readHomes(s);
        }

        private boolean readItems(Section s) {
            s.itemsFrom = plan.items.count;
            for (int n = 0; n < SCRIPT_LIMIT && here() != '}'; n++) {
                if (!readItem()) {
                    return false;
                }
            }
            s.itemsTo = plan.items.count;
            return true;
        }

        private boolean readItem() {
            if (skip('%')) {
                if (!readNumber() || !isAlignment(number, ALIGN_LIMIT)) {
                    return false;
                }
                plan.items.add(ITEM_ALIGN, number);
                return true;
            }
            if (skip('$')) {
                int v = letter('i', SYMBOLS);
                if (v < 0 || plan.symbols[v].told) {
                    return false;
                }
                place++;
                plan.symbols[v].told = true;
                plan.items.add(ITEM_SYMBOL, v);
                return true;
            }
            int k = letter('a', INPUTS);
            if (k < 0 || plan.inputs[k].stands) {
                return false;
            }
            place++;
            plan.inputs[k].stands = true;
            plan.items.add(ITEM_INPUT, k);
            return true;
        }

        private boolean readHomes(Section s) {
            int home = letter('A', REGIONS);
            if (home < 0 || !plan.regions[home].told) {
                return false;
            }
            place++;
            s.home = home;
            if (skip('!')) {
                s.isLoaded = false;
            } else if (skip('^')) {
                int loadHome = letter('A', REGIONS);
                if (loadHome < 0 || loadHome == home || !plan.regions[loadHome].told) {
                    return false;
                }
                place++;
                s.loadHome = loadHome;
            }
            return true;
        }

        private boolean readSymbol() {
            int v = letter('i', SYMBOLS);
            if (v < 0 || plan.symbols[v].told) {
                return false;
            }
            place++;
            Symbol symbol = plan.symbols[v];
            symbol.told = true;
            symbol.hasSteps = true;
            symbol.stepsFrom = plan.steps.count;
            if (!skip('=') || !readExpression(0)) {
                return false;
            }
            symbol.stepsTo = plan.steps.count;
            return true;
        }

        private boolean readExpression(int depth) {
            if (!readTerm(depth)) {
                return false;
            }
            for (int n = 0; n < SCRIPT_LIMIT && (here() == '+' || here() == '-'); n++) {
                int sign = here() == '+' ? STEP_PLUS : STEP_MINUS;
                place++;
                if (!readTerm(depth)) {
                    return false;
                }
                plan.steps.add(sign, 0);
            }
            return true;
        }

        private boolean readTerm(int depth) {
            int v = letter('i', SYMBOLS);
            if (v >= 0) {
                place++;
                plan.steps.add(STEP_SYMBOL, v);
                return true;
            }
            switch (here()) {
                case '/':
                    return readOfSection(STEP_ADDRESS);
                case '|':
                    return readOfSection(STEP_LOADED);
                case '#':
                    return readOfSection(STEP_SIZE);
                case '(':
                case '[':
                    return depth < BRACKET_LIMIT && readBracket(depth + 1);
                default:
                    break;
            }
            if (!readNumber()) {
                return false;
            }
            plan.steps.add(STEP_NUMBER, number);
            return true;
        }

        private boolean readOfSection(int step) {
            place++;
            int t = letter('A', SECTIONS);
            if (t < 0) {
                return false;
            }
            place++;
            plan.steps.add(step, t);
            return true;
        }

        private boolean readBracket(int depth) {
            boolean raises = here() == '[';
            place++;
            if (!readExpression(depth)) {
                return false;
            }
            if (!raises) {
                return skip(')');
            }
            if (!skip(',') || !readNumber() || !isAlignment(number, ALIGN_LIMIT)) {
                return false;
            }
            plan.steps.add(STEP_RAISE, number);
            return skip(']');
        }

        private boolean readNumber() {
            int digits = 0;
            number = 0;
            while (digits < DIGIT_LIMIT && here() >= '0' && here() <= '9') {
                number = number * 10 + here() - '0';
                place++;
                digits++;
            }
            return digits > 0;
        }

        private boolean skip(int c) {
            if (here() != c) {
                return false;
            }
            place++;
            return true;
        }

        private int letter(int first, int count) {
            int n = here() - first;
            return n >= 0 && n < count ? n : -1;
        }

        /** The character come to, or 0, which can't be typed, where the script has ended. */
        private int here() {
            return place < script.length ? script.text[place] : 0;
        }
    }

    /**
     * Reckons sections and symbols, each as soon as all that it needs is known. What is cyclic, or
     * speaks of something that is not told, or gives what it may not, never becomes known.
     */
    private static final class Reckoner {
        private final Plan plan;
        private final int[] stack = new int[SCRIPT_LIMIT];
        private int height = 0;

        Reckoner(Plan plan) {
            this.plan = plan;
        }

        boolean reckonAll() {
            boolean moved = true;
            for (int pass = 0; moved && pass < SECTIONS + SYMBOLS; pass++) {
                moved = false;
                for (int position = 0; position < plan.sectionCount; position++) {
                    moved = reckonSection(position) || moved;
                }
                for (int v = 0; v < SYMBOLS; v++) {
                    moved = reckonSymbol(plan.symbols[v]) || moved;
                }
            }
            return allKnown();
        }

        private boolean allKnown() {
            for (int position = 0; position < plan.sectionCount; position++) {
                if (!plan.sectionAt(position).isKnown()) {
                    return false;
                }
            }
            for (int v = 0; v < SYMBOLS; v++) {
                if (plan.symbols[v].told && plan.symbols[v].value == NOT_YET) {
                    return false;
                }
            }
            return true;
        }

        /** Answers whether the symbol became known by this call. */
        private boolean reckonSymbol(Symbol symbol) {
            if (!symbol.hasSteps || symbol.value != NOT_YET) {
                return false;
            }
            symbol.value = valueOf(symbol.stepsFrom, symbol.stepsTo);
            return symbol.value != NOT_YET;
        }

        /** Answers whether the section became known by this call. */
        private boolean reckonSection(int position) {
            Section s = plan.sectionAt(position);
            if (s.isKnown()) {
                return false;
            }
            int begin = beginOf(s, position);
            int loadedAt = loadedAtOf(s, position, begin);
            if (begin == NOT_YET || loadedAt == NOT_YET) {
                return false;
            }
            s.address = begin;
            s.loadedAt = loadedAt;
            s.size = putItems(s) - begin;
            return true;
        }

        private int beginOf(Section s, int position) {
            if (s.hasAddress) {
                return valueOf(s.stepsFrom, s.stepsTo);
            }
            return raisedPlaceOf(s.home, s, position);
        }

        private int loadedAtOf(Section s, int position, int begin) {
            if (!s.isLoaded) {
                return NOWHERE;
            }
            return s.loadHome == NOWHERE ? begin : raisedPlaceOf(s.loadHome, s, position);
        }

        private int raisedPlaceOf(int region, Section s, int position) {
            int place = placeOf(region, position);
            return place == NOT_YET ? NOT_YET : raise(place, greatestAlignment(s));
        }

        private int placeOf(int region, int position) {
            for (int p = position - 1; p >= 0; p--) {
                Section before = plan.sectionAt(p);
                if (before.home == region || before.loadHome == region) {
                    int begin = before.home == region ? before.address : before.loadedAt;
                    return before.isKnown() ? begin + before.size : NOT_YET;
                }
            }
            return plan.regions[region].origin;
        }

        private int greatestAlignment(Section s) {
            int greatest = 1;
            for (int i = s.itemsFrom; i < s.itemsTo; i++) {
                int value = plan.items.values[i];
                if (plan.items.kinds[i] == ITEM_INPUT) {
                    greatest = Math.max(greatest, plan.inputs[value].align);
                } else if (plan.items.kinds[i] == ITEM_ALIGN) {
                    greatest = Math.max(greatest, value);
                }
            }
            return greatest;
        }

        /** Goes over the items and answers where the section ends. */
        private int putItems(Section s) {
            int place = s.address;
            for (int i = s.itemsFrom; i < s.itemsTo; i++) {
                int value = plan.items.values[i];
                if (plan.items.kinds[i] == ITEM_INPUT) {
                    Input part = plan.inputs[value];
                    part.place = raise(place, part.align);
                    place = part.place + part.size;
                } else if (plan.items.kinds[i] == ITEM_ALIGN) {
                    place = raise(place, value);
                } else {
                    plan.symbols[value].value = place;
                }
            }
            return place;
        }

        private int valueOf(int from, int to) {
            height = 0;
            for (int i = from; i < to; i++) {
                int value = valueOfStep(plan.steps.kinds[i], plan.steps.values[i]);
                if (value == NOT_YET || height >= SCRIPT_LIMIT) {
                    return NOT_YET;
                }
                stack[height] = value;
                height++;
            }
            return pop();
        }

        private int valueOfStep(int kind, int value) {
            switch (kind) {
                case STEP_NUMBER:
                    return value;
                case STEP_SYMBOL:
                    return plan.symbols[value].value;
                case STEP_ADDRESS:
                    return plan.sections[value].address;
                case STEP_LOADED:
                    return plan.sections[value].loadedAt;
                case STEP_SIZE:
                    return plan.sections[value].size;
                case STEP_RAISE:
                    return raisedTop(value);
                case STEP_PLUS:
                    return joinedTop(1);
                default:
                    return joinedTop(-1);
            }
        }

        private int joinedTop(int sign) {
            int right = pop();
            int left = pop();
            return allowed(left + sign * right);
        }

        private int raisedTop(int align) {
            int top = pop();
            return top < 0 ? NOT_YET : allowed(raise(top, align));
        }

        private int pop() {
            if (height == 0) {
                return NOT_YET;
            }
            height--;
            return stack[height];
        }

        private static int allowed(int value) {
            return value >= -VALUE_LIMIT && value <= VALUE_LIMIT ? value : NOT_YET;
        }
    }

    /** Finds how a layout fails of which everything is reckoned. */
    private static final class Judge {
        private final Plan plan;

        Judge(Plan plan) {
            this.plan = plan;
        }

        boolean overflows() {
            for (int position = 0; position < plan.sectionCount; position++) {
                Section s = plan.sectionAt(position);
                if (!plan.regions[s.home].holds(s.address, s.size)) {
                    return true;
                }
                if (s.loadHome != NOWHERE && !plan.regions[s.loadHome].holds(s.loadedAt, s.size)) {
                    return true;
                }
            }
            return false;
        }

        boolean overlaps() {
            for (int p = 0; p < plan.sectionCount; p++) {
                for (int q = p + 1; q < plan.sectionCount; q++) {
                    if (overlap(plan.sectionAt(p), plan.sectionAt(q))) {
                        return true;
                    }
                }
            }
            return false;
        }

        private static boolean overlap(Section a, Section b) {
            if (meet(a.address, a.size, b.address, b.size)) {
                return true;
            }
            return a.isLoaded && b.isLoaded && meet(a.loadedAt, a.size, b.loadedAt, b.size);
        }

        /** A copy may write over what an earlier one has read, but over nothing still to be read. */
        boolean copiesClash() {
            for (int k = 0; k < plan.copyCount; k++) {
                Section goes = plan.copiedAt(k);
                for (int j = k; j < plan.copyCount; j++) {
                    Section read = plan.copiedAt(j);
                    if (meet(goes.address, goes.size, read.loadedAt, read.size)) {
                        return true;
                    }
                }
            }
            return false;
        }

        private static boolean meet(int a, int aSize, int b, int bSize) {
            return aSize > 0 && bSize > 0 && a < b + bSize && b < a + aSize;
        }
    }

    /** The bytes of memory; what would come outside of it is left out. */
    private static final class Memory {
        private final int[] bytes = new int[MEMORY_SIZE];

        void fill(int begin, int size, int value) {
            for (int i = 0; i < size; i++) {
                store(begin + i, value);
            }
        }

        void bring(Input part, int begin) {
            for (int i = 0; i < part.size; i++) {
                store(begin + i, (part.seed + i) & 255);
            }
        }

        void move(int from, int to, int size) {
            for (int i = 0; i < size; i++) {
                store(to + i, fetch(from + i));
            }
        }

        int fetch(int a) {
            return a >= 0 && a < MEMORY_SIZE ? bytes[a] : 0;
        }

        private void store(int a, int value) {
            if (a >= 0 && a < MEMORY_SIZE) {
                bytes[a] = value;
            }
        }
    }
}
