/** An assembler, reader, checker, teller and runner for a small machine with sixteen registers. */
public final class UnitDesk {
    public static final int REFUSED = -1;
    public static final int NONE = -2;
    public static final int FULL = -3;
    public static final int WORD = -4;
    public static final int ARGUMENT = -5;
    public static final int LABEL = -6;
    public static final int BAD = -7;

    private static final int DRAFT_SIZE = 40;
    private static final int ITEM_LIMIT = 40;
    private static final int LABEL_LIMIT = 12;
    private static final int UNIT_LIMIT = 200;
    private static final int CASE_LIMIT = 4;
    private static final int REGISTER_COUNT = 16;
    private static final int STEP_LIMIT = 30;
    private static final int UNIT_MASK = 65535;

    /** What a LABEL that was set adds to its answer, so that it is told apart from an ITEM's number. */
    private static final int LABEL_ANSWER = 100;

    /** Below every NUMBER that five digits can write, so that every test of size turns it down. */
    private static final int NO_NUMBER = Integer.MIN_VALUE;
    private static final int NO_REGISTER = -1;
    /** A LABEL's name is kept as a number to the base 27 with no digit 0, so no name is 0. */
    private static final int NO_NAME = 0;
    private static final int NOT_SET = -1;

    private static final int GOES_ON = 0;
    private static final int STOPPED_BY_RET = 1;
    private static final int STOPPED_BY_BAD = 2;

    private static final Kind[] KINDS = Kind.values();

    private final Draft draft;
    private final Text text;
    private final Code code;
    private final Reading reading;
    private final Machine machine;
    private final StringBuilder telling;

    public UnitDesk() {
        draft = new Draft();
        text = new Text();
        code = new Code();
        reading = new Reading();
        machine = new Machine();
        telling = new StringBuilder();
    }

    public int put(int c) {
        if (c < 0 || c > 255) {
            return REFUSED;
        }
        return draft.append(c);
    }

    public int line() {
        draft.partIntoWords();
        int answer = takeLine();
        draft.length = 0;
        return answer;
    }

    public int clear() {
        int had = text.count;
        text.empty();
        return had;
    }

    public int assemble() {
        if (!text.allLabelsAreSet()) {
            return LABEL;
        }
        if (!text.allTablesMeanCases()) {
            return BAD;
        }
        if (text.unitCount > UNIT_LIMIT) {
            return FULL;
        }
        text.writeTo(code);
        machine.startAnew();
        return code.count;
    }

    public int item(int i, int what) {
        if (what < 0 || what > 2) {
            return REFUSED;
        }
        if (i < 0 || i >= text.count) {
            return NONE;
        }
        Item asked = text.items[i];
        if (what == 0) {
            return asked.kind.op;
        }
        return what == 1 ? asked.address : asked.unitCount();
    }

    public int unit(int i) {
        return code.has(i) ? code.units[i] : NONE;
    }

    public int set(int i, int w) {
        if (w < 0 || w > UNIT_MASK || i < 0 || i > code.count) {
            return REFUSED;
        }
        if (i >= UNIT_LIMIT) {
            return FULL;
        }
        if (i == code.count) {
            code.append(w);
        } else {
            code.units[i] = w;
        }
        return code.count;
    }

    public int read(int a, int what) {
        if (what < 0 || what > 7 + CASE_LIMIT) {
            return REFUSED;
        }
        if (!reading.canRead(code, a)) {
            return BAD;
        }
        return reading.part(what);
    }

    public int check() {
        int unreadable = code.markBeginnings(reading);
        if (unreadable != NONE) {
            return unreadable;
        }
        for (int a = 0; a < code.count; a++) {
            if (code.beginnings[a] != NONE && reading.canRead(code, a) && code.strays(reading)) {
                return a;
            }
        }
        return NONE;
    }

    public int told(int a, int k) {
        if (!reading.canRead(code, a)) {
            return BAD;
        }
        telling.setLength(0);
        reading.tell(telling);
        if (k == -1) {
            return telling.length();
        }
        return k >= 0 && k < telling.length() ? telling.charAt(k) : NONE;
    }

    public int run(int n) {
        if (n < 1 || n > STEP_LIMIT) {
            return REFUSED;
        }
        return machine.goOn(code, reading, n);
    }

    public int state(int what) {
        if (what >= 0 && what < REGISTER_COUNT) {
            return machine.registers[what];
        }
        switch (what) {
            case 16:
                return machine.place;
            case 17:
                return machine.steps;
            case 18:
                return machine.stopped;
            case 19:
                return machine.outcome;
            case 20:
                return code.count;
            case 21:
                return text.count;
            case 22:
                return text.labels.count;
            case 23:
                return draft.length;
            case 24:
                return text.longJumps;
            default:
                return NONE;
        }
    }

    private int takeLine() {
        if (draft.wordCount == 0) {
            return WORD;
        }
        int name = draft.labelName(0);
        if (name != NO_NAME) {
            return draft.wordCount == 1 ? text.standLabel(name) : WORD;
        }
        Kind kind = draft.kindOfFirstWord();
        if (kind == null) {
            return WORD;
        }
        Item item = text.spare();
        item.begin(kind);
        return takeArguments(item) ? text.keepSpare() : ARGUMENT;
    }

    private boolean takeArguments(Item item) {
        int given = draft.wordCount - 1;
        if (given < item.kind.leastArguments() || given > item.kind.mostArguments()) {
            return false;
        }
        for (int k = 0; k < given; k++) {
            if (!takeArgument(item, item.kind.argument(k), k + 1)) {
                return false;
            }
        }
        return true;
    }

    private boolean takeArgument(Item item, char sort, int word) {
        if (sort == 'n') {
            return item.takeNumber(draft.number(word));
        }
        if (sort == 'L') {
            return item.takeName(draft.labelName(word));
        }
        return item.takeRegister(sort - 'A', draft.register(word));
    }

    /**
     * The kinds of things that the CODE can hold, each form of const and jump for itself.
     * The shorter form stands before the longer one, so a search by word finds the shorter.
     * All but cases are looked at as one row of bits, the second unit above the first.
     */
    private enum Kind {
        NOP(0, 1, "nop", "", 0),
        MOVE(1, 1, "move", "AB", 0),
        RET(15, 1, "ret", "A", 0),
        CONST(18, 1, "const", "An", 12),
        CONST_LONG(19, 2, "const", "An", 16),
        ADD(144, 2, "add", "ABC", 0),
        SUB(145, 2, "sub", "ABC", 0),
        MUL(146, 2, "mul", "ABC", 0),
        ADDI(216, 2, "addi", "ABn", 24),
        JUMP(40, 1, "jump", "L", 8),
        JUMP_LONG(41, 2, "jump", "L", 16),
        JEQ(50, 2, "jeq", "ABL", 16),
        JLT(51, 2, "jlt", "ABL", 16),
        JZ(56, 2, "jz", "AL", 16),
        TABLE(43, 2, "table", "AL", 16),
        CASES(256, 3, "cases", "nL", 0);

        private final int op;
        /** For cases those before the units of the LABELS. */
        private final int units;
        private final String word;
        /** A, B, C: REGISTERS, n: a NUMBER, L: a LABEL. */
        private final String arguments;
        /** The bit from which the NUMBER or d fills the bits up to the end; 0 without such a field. */
        private final int fieldAt;
        /** The bit from which B stands: with two units and no LABEL, in the second unit. */
        private final int secondRegisterAt;
        /** Of cases the LABELS are no place that it goes to itself. */
        private final boolean goes;

        Kind(int op, int units, String word, String arguments, int fieldAt) {
            this.op = op;
            this.units = units;
            this.word = word;
            this.arguments = arguments;
            this.fieldAt = fieldAt;
            boolean namesLabel = arguments.indexOf('L') >= 0;
            this.secondRegisterAt = units == 2 && !namesLabel ? 16 : 12;
            this.goes = namesLabel && units < 3;
        }

        int leastArguments() {
            return arguments.length();
        }

        int mostArguments() {
            return this == CASES ? 1 + CASE_LIMIT : arguments.length();
        }

        /** All arguments behind those that are written out are LABELS of cases. */
        char argument(int k) {
            return k >= 0 && k < arguments.length() ? arguments.charAt(k) : 'L';
        }

        boolean has(char sort) {
            return arguments.indexOf(sort) >= 0;
        }

        boolean holdsNumber(int n) {
            int half = this == ADDI ? 128 : 32768;
            return n >= -half && n < half;
        }

        int fieldBits(int value) {
            if (fieldAt == 0) {
                return 0;
            }
            int width = 16 * units - fieldAt;
            return (value & ((1 << width) - 1)) << fieldAt;
        }

        /** The field stands at the upper end, so two shifts bring it down with its sign. */
        int fieldOf(int bits) {
            if (fieldAt == 0) {
                return 0;
            }
            int unused = 32 - 16 * units;
            return bits << unused >> (unused + fieldAt);
        }
    }

    /** The DRAFT, and the WORDS of the LINE in it. */
    private static final class Draft {
        private final int[] row = new int[DRAFT_SIZE];
        private int length;
        private final int[] starts = new int[DRAFT_SIZE];
        private final int[] ends = new int[DRAFT_SIZE];
        private int wordCount;

        int append(int c) {
            if (length >= DRAFT_SIZE) {
                return FULL;
            }
            row[length] = c;
            length++;
            return length;
        }

        void partIntoWords() {
            wordCount = 0;
            boolean inside = false;
            for (int i = 0; i < length && row[i] != ';'; i++) {
                boolean gap = row[i] == ' ' || row[i] == ',';
                if (!gap) {
                    if (!inside) {
                        starts[wordCount] = i;
                        wordCount++;
                    }
                    ends[wordCount - 1] = i + 1;
                }
                inside = !gap;
            }
        }

        Kind kindOfFirstWord() {
            for (int k = 0; k < KINDS.length; k++) {
                if (firstWordIs(KINDS[k].word)) {
                    return KINDS[k];
                }
            }
            return null;
        }

        private boolean firstWordIs(String word) {
            int from = starts[0];
            if (ends[0] - from != word.length()) {
                return false;
            }
            for (int i = 0; i < word.length(); i++) {
                if (row[from + i] != word.charAt(i)) {
                    return false;
                }
            }
            return true;
        }

        int register(int word) {
            if (row[starts[word]] != 'v') {
                return NO_REGISTER;
            }
            int value = digits(starts[word] + 1, ends[word]);
            return value >= 0 && value < REGISTER_COUNT ? value : NO_REGISTER;
        }

        int number(int word) {
            boolean minus = row[starts[word]] == '-';
            int value = digits(starts[word] + (minus ? 1 : 0), ends[word]);
            if (value == NO_NUMBER || minus && value == 0) {
                return NO_NUMBER;
            }
            return minus ? -value : value;
        }

        private int digits(int from, int to) {
            int many = to - from;
            if (many < 1 || many > 5 || many > 1 && row[from] == '0') {
                return NO_NUMBER;
            }
            int value = 0;
            for (int i = from; i < to; i++) {
                if (row[i] < '0' || row[i] > '9') {
                    return NO_NUMBER;
                }
                value = 10 * value + row[i] - '0';
            }
            return value;
        }

        int labelName(int word) {
            int from = starts[word] + 1;
            int letters = ends[word] - from;
            if (row[starts[word]] != ':' || letters < 1 || letters > 6) {
                return NO_NAME;
            }
            int name = 0;
            for (int i = from; i < ends[word]; i++) {
                if (row[i] < 'a' || row[i] > 'z') {
                    return NO_NAME;
                }
                name = 27 * name + row[i] - 'a' + 1;
            }
            return name;
        }
    }

    /** One ITEM of the TEXT. */
    private static final class Item {
        private Kind kind = Kind.NOP;
        /** Whether a const or a jump has its longer form. */
        private boolean longer;
        private final int[] registers = new int[3];
        private int number;
        private int labelCount;
        private final int[] names = new int[CASE_LIMIT];
        /** The number of each LABEL among those of the TEXT. */
        private final int[] labels = new int[CASE_LIMIT];
        private int address;

        void begin(Kind newKind) {
            kind = newKind;
            longer = false;
            registers[0] = 0;
            registers[1] = 0;
            registers[2] = 0;
            number = 0;
            labelCount = 0;
        }

        boolean takeRegister(int which, int register) {
            if (register == NO_REGISTER || which < 0 || which > 2) {
                return false;
            }
            registers[which] = register;
            return true;
        }

        boolean takeNumber(int n) {
            if (!kind.holdsNumber(n)) {
                return false;
            }
            number = n;
            longer = kind == Kind.CONST && (n < -8 || n > 7);
            return true;
        }

        boolean takeName(int name) {
            if (name == NO_NAME || labelCount >= CASE_LIMIT) {
                return false;
            }
            names[labelCount] = name;
            labelCount++;
            return true;
        }

        Kind form() {
            if (!longer) {
                return kind;
            }
            return kind == Kind.JUMP ? Kind.JUMP_LONG : Kind.CONST_LONG;
        }

        int unitCount() {
            return kind == Kind.CASES ? kind.units + labelCount : form().units;
        }
    }

    /** The LABELS of the TEXT, those that are set and those that ITEMS name. */
    private static final class Labels {
        private final int[] names = new int[LABEL_LIMIT];
        /** The number of the ITEM before which each one stands, or NOT_SET. */
        private final int[] standsBefore = new int[LABEL_LIMIT];
        private int count;

        int find(int name) {
            for (int k = 0; k < count; k++) {
                if (names[k] == name) {
                    return k;
                }
            }
            return NONE;
        }

        int findOrAdd(int name) {
            int found = find(name);
            if (found != NONE) {
                return found;
            }
            if (count >= LABEL_LIMIT) {
                return FULL;
            }
            names[count] = name;
            standsBefore[count] = NOT_SET;
            count++;
            return count - 1;
        }

        /** Without room for all names of the ITEM none of them stays. */
        boolean addAllOf(Item item) {
            int before = count;
            for (int k = 0; k < item.labelCount; k++) {
                int label = findOrAdd(item.names[k]);
                if (label == FULL) {
                    count = before;
                    return false;
                }
                item.labels[k] = label;
            }
            return true;
        }

        boolean allAreSet() {
            for (int k = 0; k < count; k++) {
                if (standsBefore[k] == NOT_SET) {
                    return false;
                }
            }
            return true;
        }
    }

    /** The TEXT; its ITEMS have their ADDRESSES and forms at all times. */
    private static final class Text {
        /** One more than the TEXT can have: the spare one, into which a LINE is read. */
        private final Item[] items = new Item[ITEM_LIMIT + 1];
        private int count;
        private final Labels labels = new Labels();
        private int unitCount;
        private int longJumps;

        Text() {
            for (int i = 0; i < items.length; i++) {
                items[i] = new Item();
            }
        }

        void empty() {
            count = 0;
            labels.count = 0;
            layOut();
        }

        Item spare() {
            return items[count];
        }

        int keepSpare() {
            if (count >= ITEM_LIMIT || !labels.addAllOf(items[count])) {
                return FULL;
            }
            count++;
            layOut();
            return count - 1;
        }

        int standLabel(int name) {
            int label = labels.findOrAdd(name);
            if (label == FULL) {
                return FULL;
            }
            if (labels.standsBefore[label] != NOT_SET) {
                return LABEL;
            }
            labels.standsBefore[label] = count;
            layOut();
            return LABEL_ANSWER + labels.count;
        }

        boolean allLabelsAreSet() {
            return labels.allAreSet();
        }

        boolean allTablesMeanCases() {
            for (int i = 0; i < count; i++) {
                if (items[i].kind == Kind.TABLE && !standsBeforeCases(items[i].labels[0])) {
                    return false;
                }
            }
            return true;
        }

        private boolean standsBeforeCases(int label) {
            int before = labels.standsBefore[label];
            return before != NOT_SET && before < count && items[before].kind == Kind.CASES;
        }

        /** Every round but the last makes a jump LONG, so there are no more rounds than jumps and one. */
        private void layOut() {
            shortenJumps();
            boolean reached = false;
            for (int round = 0; round <= ITEM_LIMIT && !reached; round++) {
                placeItems();
                reached = !lengthenJumps();
            }
        }

        private void shortenJumps() {
            longJumps = 0;
            for (int i = 0; i < count; i++) {
                if (items[i].kind == Kind.JUMP) {
                    items[i].longer = false;
                }
            }
        }

        private void placeItems() {
            int at = 0;
            for (int i = 0; i < count; i++) {
                if (items[i].kind == Kind.CASES && at % 2 == 1) {
                    at++;
                }
                items[i].address = at;
                at += items[i].unitCount();
            }
            unitCount = at;
        }

        private boolean lengthenJumps() {
            int before = longJumps;
            for (int i = 0; i < count; i++) {
                Item jump = items[i];
                if (jump.kind == Kind.JUMP && !jump.longer && !reachesShort(jump)) {
                    jump.longer = true;
                    longJumps++;
                }
            }
            return longJumps > before;
        }

        private boolean reachesShort(Item jump) {
            int d = addressOf(jump.labels[0]) - jump.address;
            return d != 0 && d >= -128 && d <= 127;
        }

        private int addressOf(int label) {
            int before = labels.standsBefore[label];
            if (before == NOT_SET) {
                return 0;
            }
            return before < count ? items[before].address : unitCount;
        }

        void writeTo(Code code) {
            code.count = 0;
            int latestTable = 0;
            for (int i = 0; i < count; i++) {
                Item item = items[i];
                if (code.count < item.address) {
                    code.append(0);
                }
                if (item.kind == Kind.CASES) {
                    writeCases(code, item, latestTable);
                } else {
                    writeBits(code, item);
                }
                if (item.kind == Kind.TABLE) {
                    latestTable = item.address;
                }
            }
        }

        private void writeCases(Code code, Item item, int latestTable) {
            code.append(item.kind.op);
            code.append(item.labelCount);
            code.append(item.number & UNIT_MASK);
            for (int k = 0; k < item.labelCount; k++) {
                code.append((addressOf(item.labels[k]) - latestTable) & UNIT_MASK);
            }
        }

        private void writeBits(Code code, Item item) {
            Kind form = item.form();
            int field = form.goes ? addressOf(item.labels[0]) - item.address : item.number;
            int bits = form.op
                | item.registers[0] << 8
                | item.registers[1] << form.secondRegisterAt
                | item.registers[2] << 24
                | form.fieldBits(field);
            code.append(bits & UNIT_MASK);
            if (form.units == 2) {
                code.append(bits >>> 16);
            }
        }
    }

    /** The CODE. */
    private static final class Code {
        private final int[] units = new int[UNIT_LIMIT];
        private int count;
        /** At each ADDRESS the OP of the thing that begins there, or NONE; as of the latest check. */
        private final int[] beginnings = new int[UNIT_LIMIT];

        boolean has(int a) {
            return a >= 0 && a < count;
        }

        void append(int w) {
            if (count < UNIT_LIMIT) {
                units[count] = w;
                count++;
            }
        }

        /** The first ADDRESS at which nothing can be read, or NONE. */
        int markBeginnings(Reading reading) {
            int next = 0;
            for (int a = 0; a < count; a++) {
                beginnings[a] = NONE;
                if (a == next) {
                    if (!reading.canRead(this, a)) {
                        return a;
                    }
                    beginnings[a] = reading.kind.op;
                    next = a + reading.unitCount;
                }
            }
            return NONE;
        }

        boolean strays(Reading reading) {
            if (!reading.kind.goes) {
                return false;
            }
            int goal = reading.goal();
            int there = has(goal) ? beginnings[goal] : NONE;
            return reading.kind == Kind.TABLE ? there != Kind.CASES.op : there == NONE;
        }
    }

    /** What was READ at an ADDRESS of the CODE. */
    private static final class Reading {
        private Kind kind = Kind.NOP;
        private int address;
        private int unitCount;
        private final int[] registers = new int[3];
        /** The NUMBER, or d of what goes somewhere. */
        private int field;
        private int caseCount;
        private final int[] cases = new int[CASE_LIMIT];

        boolean canRead(Code code, int a) {
            if (!code.has(a)) {
                return false;
            }
            Kind found = kindOf(code.units[a]);
            if (found == null) {
                return false;
            }
            kind = found;
            address = a;
            return kind == Kind.CASES ? canReadCases(code) : canReadBits(code);
        }

        private Kind kindOf(int first) {
            int op = first % 256 == 0 ? first : first % 256;
            for (int k = 0; k < KINDS.length; k++) {
                if (KINDS[k].op == op) {
                    return KINDS[k];
                }
            }
            return null;
        }

        private boolean canReadCases(Code code) {
            if (!code.has(address + 2)) {
                return false;
            }
            caseCount = code.units[address + 1];
            unitCount = kind.units + caseCount;
            if (caseCount < 1 || caseCount > CASE_LIMIT || !code.has(address + unitCount - 1)) {
                return false;
            }
            field = (short) code.units[address + 2];
            for (int k = 0; k < caseCount; k++) {
                cases[k] = (short) code.units[address + 3 + k];
            }
            return true;
        }

        private boolean canReadBits(Code code) {
            unitCount = kind.units;
            if (!code.has(address + unitCount - 1)) {
                return false;
            }
            int bits = code.units[address];
            if (unitCount == 2) {
                bits |= code.units[address + 1] << 16;
            }
            registers[0] = bits >> 8 & 15;
            registers[1] = bits >> kind.secondRegisterAt & 15;
            registers[2] = bits >> 24 & 15;
            field = kind.fieldOf(bits);
            return true;
        }

        int goal() {
            return address + field;
        }

        int part(int what) {
            switch (what) {
                case 0:
                    return kind.op;
                case 1:
                    return unitCount;
                case 2:
                case 3:
                case 4:
                    return kind.has((char) ('A' + what - 2)) ? registers[what - 2] : NONE;
                case 5:
                    return kind.has('n') ? field : NONE;
                case 6:
                    return kind.goes ? goal() : NONE;
                case 7:
                    return kind == Kind.CASES ? caseCount : NONE;
                default:
                    return caseDistance(what - 8);
            }
        }

        private int caseDistance(int k) {
            return kind == Kind.CASES && k >= 0 && k < caseCount ? cases[k] : NONE;
        }

        void tell(StringBuilder out) {
            out.append(kind.word);
            for (int k = 0; k < kind.arguments.length(); k++) {
                tellArgument(kind.argument(k), out);
            }
        }

        private void tellArgument(char sort, StringBuilder out) {
            if (sort == 'n') {
                out.append(' ').append(field);
            } else if (sort != 'L') {
                out.append(" v").append(registers[sort - 'A']);
            } else if (kind == Kind.CASES) {
                tellCases(out);
            } else {
                out.append(' ').append(goal());
            }
        }

        private void tellCases(StringBuilder out) {
            for (int k = 0; k < caseCount; k++) {
                out.append(' ').append(cases[k]);
            }
        }
    }

    /** The machine that does what is READ. */
    private static final class Machine {
        private final int[] registers = new int[REGISTER_COUNT];
        private int place;
        private int steps;
        private int stopped = GOES_ON;
        private int outcome;
        /** What a table goes to; apart from what is being done. */
        private final Reading aim = new Reading();

        void startAnew() {
            for (int r = 0; r < REGISTER_COUNT; r++) {
                registers[r] = 0;
            }
            place = 0;
            steps = 0;
            stopped = GOES_ON;
            outcome = 0;
        }

        int goOn(Code code, Reading reading, int most) {
            int done = 0;
            while (done < most && stopped == GOES_ON) {
                if (!reading.canRead(code, place)) {
                    stopped = STOPPED_BY_BAD;
                    return BAD;
                }
                calculate(reading);
                moveOn(code, reading);
                done++;
                steps++;
            }
            return done;
        }

        private void calculate(Reading reading) {
            int a = reading.registers[0];
            int b = registers[reading.registers[1]];
            int c = registers[reading.registers[2]];
            switch (reading.kind) {
                case MOVE:
                    registers[a] = b;
                    break;
                case CONST:
                case CONST_LONG:
                    registers[a] = reading.field;
                    break;
                case ADD:
                    registers[a] = b + c;
                    break;
                case SUB:
                    registers[a] = b - c;
                    break;
                case MUL:
                    registers[a] = b * c;
                    break;
                case ADDI:
                    registers[a] = b + reading.field;
                    break;
                default:
                    break;
            }
        }

        private void moveOn(Code code, Reading reading) {
            int a = registers[reading.registers[0]];
            if (reading.kind == Kind.RET) {
                stopped = STOPPED_BY_RET;
                outcome = a;
            } else if (reading.kind == Kind.TABLE) {
                place += tableDistance(code, reading, a);
            } else {
                place = leaps(reading, a) ? reading.goal() : place + reading.unitCount;
            }
        }

        private boolean leaps(Reading reading, int a) {
            int b = registers[reading.registers[1]];
            switch (reading.kind) {
                case JUMP:
                case JUMP_LONG:
                    return true;
                case JEQ:
                    return a == b;
                case JLT:
                    return a < b;
                case JZ:
                    return a == 0;
                default:
                    return false;
            }
        }

        private int tableDistance(Code code, Reading table, int a) {
            if (aim.canRead(code, table.goal()) && aim.kind == Kind.CASES) {
                int k = a - aim.field;
                if (k >= 0 && k < aim.caseCount) {
                    return aim.cases[k];
                }
            }
            return table.unitCount;
        }
    }
}
