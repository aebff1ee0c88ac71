import java.util.Arrays;

/**
 * Programs of classes in text: read, checked, and run so that each value carries the marks of where it comes from.
 * Every row that a call needs is made in the constructor and used again, so that calls make no objects.
 */
public final class TaintHouse {
    public static final int NONE = -1;

    private static final int NO_SUCH_NUMBER = -15;
    private static final int NO_SUCH_METHOD = -10;
    private static final int FAULT_ANSWER = -5000;

    private static final int TAPE_BYTES = 4000;
    private static final int FED_BYTES = 20;
    private static final int NAME_SIGNS = 12;
    private static final int FIRST_CLASSES = 7;
    private static final int CLASSES = FIRST_CLASSES + 12;
    private static final int CLASS_FIELDS = 8;
    private static final int FIELDS = (CLASSES - FIRST_CLASSES) * CLASS_FIELDS;
    private static final int STATICS = 16;
    private static final int METHODS = 24;
    private static final int KINDS = 6;
    private static final int METHOD_TRIES = 8;
    private static final int METHOD_CODES = 100;
    private static final int LOCALS = 16;
    private static final int STACK = 16;
    private static final int FRAME_VALUES = LOCALS + STACK;
    private static final int ARGUMENTS = KINDS + 1;
    private static final int CHANNELS = 16;
    private static final int ALL_MARKS = 65535;
    private static final int INC_MOST = 32767;
    private static final int MOST_INT = 2147483647;
    private static final int LEAST_INT = -2147483648;
    private static final int RUN_CODES = 20000;
    private static final int RUN_FRAMES = 24;
    private static final int RUN_CELLS = 3000;
    private static final int RUN_EVENTS = 500;

    /** What a tape can hold of things whose shortest forms are "a:" and "or;". */
    private static final int LABELS = TAPE_BYTES / 2;
    private static final int CODES = TAPE_BYTES / 3;
    /** Names that differ take three bytes each with the blank behind them, but for 52 of a single letter. */
    private static final int NAMES = TAPE_BYTES / 3 + 52;

    /** Kinds; as RESULTS they have the same numbers, 0 is none. */
    private static final int INT = 1;
    private static final int REF = 2;

    /** Refs are numbers of OBJECTS and ARRAYS; null is the NONE that the face tells for it. */
    private static final int NULL = NONE;

    private static final int ANY = 0;
    private static final int FAULT = 1;
    private static final int NULL_FAULT = 2;
    private static final int BOUNDS_FAULT = 3;
    private static final int SIZE_FAULT = 4;
    private static final int DIVIDE_FAULT = 5;
    private static final int CAST_FAULT = 6;

    /** What stands for a class in an ARRAY, as the face tells it. */
    private static final int INTS_CLASS = -2;
    private static final int REFS_CLASS = -3;

    /** Flows. */
    private static final int INDEX_FLOWS = 1;
    private static final int READ_REF_FLOWS = 2;
    private static final int WRITTEN_REF_FLOWS = 4;

    /** Instructions' words stand first, so that a word's number is its instruction's; the last seven are names. */
    private static final String WORDS = "push null load store inc dup pop swap add sub mul div rem and or xor shl shr ushr neg goto ifeq ifne iflt ifge ifgt ifle cmpeq cmpne cmplt cmpge cmpgt cmple ifnull ifsome same other new get put gets puts ints refs iget iput rget rput length call virt ret throw is as source sink clean mark class field static method virtual int ref none try Any Fault NullFault BoundsFault SizeFault DivideFault CastFault ";

    private static final int OP_PUSH = 0;
    private static final int OP_NULL = 1;
    private static final int OP_LOAD = 2;
    private static final int OP_STORE = 3;
    private static final int OP_INC = 4;
    private static final int OP_DUP = 5;
    private static final int OP_POP = 6;
    private static final int OP_SWAP = 7;
    private static final int OP_ADD = 8;
    private static final int OP_SUB = 9;
    private static final int OP_MUL = 10;
    private static final int OP_DIV = 11;
    private static final int OP_REM = 12;
    private static final int OP_AND = 13;
    private static final int OP_OR = 14;
    private static final int OP_XOR = 15;
    private static final int OP_SHL = 16;
    private static final int OP_SHR = 17;
    private static final int OP_USHR = 18;
    private static final int OP_NEG = 19;
    private static final int OP_GOTO = 20;
    private static final int OP_IFEQ = 21;
    private static final int OP_IFLE = 26;
    private static final int OP_CMPEQ = 27;
    private static final int OP_CMPLE = 32;
    private static final int OP_IFNULL = 33;
    private static final int OP_IFSOME = 34;
    private static final int OP_SAME = 35;
    private static final int OP_OTHER = 36;
    private static final int OP_NEW = 37;
    private static final int OP_GET = 38;
    private static final int OP_PUT = 39;
    private static final int OP_GETS = 40;
    private static final int OP_PUTS = 41;
    private static final int OP_INTS = 42;
    private static final int OP_REFS = 43;
    private static final int OP_IGET = 44;
    private static final int OP_IPUT = 45;
    private static final int OP_RGET = 46;
    private static final int OP_RPUT = 47;
    private static final int OP_LENGTH = 48;
    private static final int OP_CALL = 49;
    private static final int OP_VIRT = 50;
    private static final int OP_RET = 51;
    private static final int OP_THROW = 52;
    private static final int OP_IS = 53;
    private static final int OP_AS = 54;
    private static final int OP_SOURCE = 55;
    private static final int OP_SINK = 56;
    private static final int OP_CLEAN = 57;
    private static final int OP_MARK = 58;

    private static final int WORD_CLASS = 59;
    private static final int WORD_FIELD = 60;
    private static final int WORD_STATIC = 61;
    private static final int WORD_METHOD = 62;
    private static final int WORD_VIRTUAL = 63;
    private static final int WORD_INT = 64;
    private static final int WORD_REF = 65;
    private static final int WORD_NONE = 66;
    private static final int WORD_TRY = 67;
    private static final int FIRST_NAME = 68;

    /** What is told to an instruction. */
    private static final int SHAPE_PLAIN = 0;
    private static final int SHAPE_NUMBER = 1;
    private static final int SHAPE_LOCAL = 2;
    private static final int SHAPE_LOCAL_NUMBER = 3;
    private static final int SHAPE_LABEL = 4;
    private static final int SHAPE_CLASS = 5;
    private static final int SHAPE_MEMBER = 6;
    private static final int SHAPE_MASK = 7;

    private static final int[] SHAPES = {
        1, 0, 2, 2, 3, 0, 0, 0, // push null load store inc dup pop swap
        0, 0, 0, 0, 0, 0, 0, 0, 0, 0, 0, 0, // add .. ushr, neg
        4, 4, 4, 4, 4, 4, 4, // goto, ifeq .. ifle
        4, 4, 4, 4, 4, 4, // cmpeq .. cmple
        4, 4, 4, 4, // ifnull ifsome same other
        5, 6, 6, 6, 6, // new get put gets puts
        0, 0, 0, 0, 0, 0, 0, // ints refs iget iput rget rput length
        6, 6, 0, 0, // call virt ret throw
        5, 5, 2, 2, 7, 7, // is as source sink clean mark
    };

    /** The kinds that an instruction takes, a digit each, the last one on top; the verifier knows those with a -1. */
    private static final int[] TAKES = {
        0, 0, -1, -1, -1, -1, -1, -1,
        11, 11, 11, 11, 11, 11, 11, 11, 11, 11, 11, 1,
        0, 1, 1, 1, 1, 1, 1,
        11, 11, 11, 11, 11, 11,
        2, 2, 22, 22,
        0, -1, -1, -1, -1,
        1, 1, 21, 211, 21, 212, 2,
        -1, -1, -1, 2,
        2, 2, 0, 1, 1, 1,
    };

    /** The kind that an instruction leaves on top, where TAKES has no -1. */
    private static final int[] GIVES = {
        1, 2, 0, 0, 0, 0, 0, 0,
        1, 1, 1, 1, 1, 1, 1, 1, 1, 1, 1, 1,
        0, 0, 0, 0, 0, 0, 0,
        0, 0, 0, 0, 0, 0,
        0, 0, 0, 0,
        2, 0, 0, 0, 0,
        2, 2, 1, 0, 2, 0, 1,
        0, 0, 0, 0,
        1, 2, 1, 0, 1, 1,
    };

    private final Table tape;
    private final Lexer lexer;
    private final Draft draft;
    private final Parser parser;
    private final Linker linker;
    private final Verifier verifier;
    private final Settings settings;
    private final Machine machine;
    private Program program;
    private Program spare;
    private int faultPlace;

    public TaintHouse() {
        tape = new Table(TAPE_BYTES, 1);
        program = new Program();
        spare = new Program();
        lexer = new Lexer(tape);
        draft = new Draft();
        parser = new Parser(lexer.tokens, draft, spare);
        linker = new Linker(lexer.names, draft, spare);
        verifier = new Verifier(draft, spare);
        settings = new Settings();
        machine = new Machine(settings, program);
        faultPlace = NONE;
    }

    public boolean feed(int a, int b, int c, int d, int e) {
        if (tape.size() + FED_BYTES > TAPE_BYTES) {
            return false;
        }
        appendBytes(a);
        appendBytes(b);
        appendBytes(c);
        appendBytes(d);
        appendBytes(e);
        return true;
    }

    public boolean end(int n) {
        if (n < 0 || n > tape.size()) {
            return false;
        }
        tape.resize(n);
        return true;
    }

    public int text() {
        lexer.scan();
        tape.resize(0);
        faultPlace = NONE;
        int wrong = parser.readText(spare);
        if (wrong != NONE) {
            return -1 - wrong;
        }
        int kind = linker.link(spare);
        if (kind != 0) {
            faultPlace = linker.faultPlace;
            return FAULT_ANSWER - kind;
        }
        faultPlace = verifier.check(spare);
        if (faultPlace != NONE) {
            return FAULT_ANSWER - Verifier.KIND;
        }
        takeSpare();
        return program.methods.size();
    }

    public int place() {
        return faultPlace;
    }

    public int flows(int v) {
        int before = settings.flowBits;
        settings.flowBits = v & (INDEX_FLOWS | READ_REF_FLOWS | WRITTEN_REF_FLOWS);
        return before;
    }

    public int policy(int k, int v) {
        if (k < 0 || k >= CHANNELS) {
            return NO_SUCH_NUMBER;
        }
        int before = settings.policies.get(k, 0);
        settings.policies.set(k, 0, v & ALL_MARKS);
        return before;
    }

    public int input(int k, int v) {
        if (k < 0 || k >= CHANNELS) {
            return NONE;
        }
        int before = settings.inputs.get(k, 0);
        settings.inputs.set(k, 0, v);
        return before;
    }

    public int argument(int i, int v, int m) {
        if (i < 0 || i >= ARGUMENTS) {
            return NO_SUCH_NUMBER;
        }
        settings.given.setPair(i, v, m & ALL_MARKS);
        return 1;
    }

    public int run(int method) {
        if (!program.methods.holds(method)) {
            return NO_SUCH_METHOD;
        }
        return machine.play(program, method);
    }

    public int result(int what) {
        if (!machine.hasRun) {
            return NONE;
        }
        switch (what) {
            case 0: return machine.ending;
            case 1: return machine.outcome;
            case 2: return machine.outcomeMarks;
            case 3: return machine.codesDone;
            case 4: return machine.events.size();
            case 5: return machine.alarms;
            case 6: return machine.heap.things.size();
            case 7: return machine.heap.cellsTaken();
            default: return NONE;
        }
    }

    public int event(int i, int what) {
        if (!machine.hasRun || !machine.events.holds(i) || what < 0 || what > Machine.ALARM) {
            return NONE;
        }
        return machine.events.get(i, what);
    }

    public int object(int i, int what) {
        if (!machine.hasRun || !machine.heap.things.holds(i)) {
            return NONE;
        }
        switch (what) {
            case 0: return machine.heap.classOf(i);
            case 1: return machine.heap.lengthOf(i);
            case 2: return machine.heap.lengthMarksOf(i);
            default: return NONE;
        }
    }

    public int slot(int i, int k, int what) {
        if (!machine.hasRun || !machine.heap.hasSlot(i, k)) {
            return NONE;
        }
        switch (what) {
            case 0: return machine.heap.valueAt(i, k);
            case 1: return machine.heap.marksAt(i, k);
            default: return NONE;
        }
    }

    public int stat(int k, int what) {
        if (!machine.hasRun || !program.statics.holds(k)) {
            return NONE;
        }
        switch (what) {
            case 0: return machine.statics.get(k, Table.VALUE);
            case 1: return machine.statics.get(k, Table.MARKS);
            default: return NONE;
        }
    }

    public int type(int c, int what) {
        if (!program.classes.holds(c)) {
            return NONE;
        }
        switch (what) {
            case 0: return program.classes.get(c, Program.PARENT);
            case 1: return program.classes.get(c, Program.ALL_FIELDS);
            case 2: return program.classes.get(c, Program.OWN_METHODS);
            default: return NONE;
        }
    }

    public int method(int m, int what) {
        if (!program.methods.holds(m)) {
            return NONE;
        }
        switch (what) {
            case 0: return program.methods.get(m, Program.CLASS);
            case 1: return program.methods.get(m, Program.KIND_COUNT);
            case 2: return program.methods.get(m, Program.RESULT);
            case 3: return program.methods.get(m, Program.SORT);
            case 4: return program.methods.get(m, Program.CODE_COUNT);
            case 5: return program.methods.get(m, Program.DEEPEST);
            default: return NONE;
        }
    }

    public int count(int what) {
        switch (what) {
            case 0: return program.classes.size();
            case 1: return program.methods.size();
            case 2: return program.statics.size();
            case 3: return settings.flowBits;
            case 4: return tape.size();
            default: return NONE;
        }
    }

    private void appendBytes(int number) {
        for (int shift = 24; shift >= 0; shift -= 8) {
            tape.set(tape.add(), 0, (number >>> shift) & 255);
        }
    }

    private void takeSpare() {
        Program before = program;
        program = spare;
        spare = before;
        settings.given.fill(0);
        machine.hasRun = false;
    }

    private static int shapeOf(int op) {
        return op >= 0 && op < SHAPES.length ? SHAPES[op] : SHAPE_PLAIN;
    }

    private static int takesOf(int op) {
        return op >= 0 && op < TAKES.length ? TAKES[op] : 0;
    }

    private static int givesOf(int op) {
        return op >= 0 && op < GIVES.length ? GIVES[op] : 0;
    }

    /** Rows of numbers. What lies outside is read as 0 and not written: no index of any caller can throw. */
    private static final class Table {
        /** The columns of tables whose rows are VALUES. */
        static final int VALUE = 0;
        static final int MARKS = 1;

        private final int rows;
        private final int columns;
        private final int[] cells;
        private int used;

        Table(int rows, int columns) {
            this.rows = Math.max(0, rows);
            this.columns = Math.max(1, columns);
            cells = new int[this.rows * this.columns];
            used = 0;
        }

        int size() {
            return used;
        }

        void resize(int size) {
            used = size < 0 ? 0 : size > rows ? rows : size;
        }

        /** The new row's number; NONE, which reads and writes take for outside, if all are used. */
        int add() {
            if (used >= rows) {
                return NONE;
            }
            used++;
            return used - 1;
        }

        boolean holds(int row) {
            return row >= 0 && row < used;
        }

        int get(int row, int column) {
            if (row < 0 || row >= rows || column < 0 || column >= columns) {
                return 0;
            }
            return cells[row * columns + column];
        }

        void set(int row, int column, int number) {
            if (row < 0 || row >= rows || column < 0 || column >= columns) {
                return;
            }
            cells[row * columns + column] = number;
        }

        void setPair(int row, int value, int marks) {
            if (row < 0 || row >= rows || columns <= MARKS) {
                return;
            }
            cells[row * columns + VALUE] = value;
            cells[row * columns + MARKS] = marks;
        }

        void fill(int number) {
            Arrays.fill(cells, number);
        }
    }

    /** Every word and name of a text once, so that names are compared as numbers. */
    private static final class Names {
        static final int CLASS = 0;
        static final int LABEL_METHOD = 1;
        static final int LABEL_AT = 2;
        private static final int START = 3;
        private static final int LENGTH = 4;
        private static final int NEXT = 5;
        private static final int COLUMNS = 6;
        private static final int BUCKETS = 256;

        final Table rows;
        private final Table signs;
        private final Table buckets;
        private int start;
        private int hash;

        Names() {
            rows = new Table(FIRST_NAME + FIRST_CLASSES + NAMES, COLUMNS);
            signs = new Table(WORDS.length() + TAPE_BYTES, 1);
            buckets = new Table(BUCKETS, 1);
        }

        void reset() {
            rows.resize(0);
            signs.resize(0);
            buckets.fill(NONE);
            begin();
            for (int i = 0; i < WORDS.length(); i++) {
                if (WORDS.charAt(i) == ' ') {
                    finish();
                    begin();
                } else {
                    put(WORDS.charAt(i));
                }
            }
        }

        void begin() {
            start = signs.size();
            hash = 0;
        }

        void put(int sign) {
            signs.set(signs.add(), 0, sign);
            hash = hash * 31 + sign;
        }

        /** The number of the name whose signs were put since begin(). */
        int finish() {
            int length = signs.size() - start;
            int bucket = (hash ^ (hash >>> 8)) & (BUCKETS - 1);
            int first = buckets.get(bucket, 0);
            int row = first;
            for (int step = 0; row != NONE && step < rows.size(); step++) {
                if (matches(row, length)) {
                    signs.resize(start);
                    return row;
                }
                row = rows.get(row, NEXT);
            }
            row = rows.add();
            rows.set(row, CLASS, NONE);
            rows.set(row, LABEL_METHOD, NONE);
            rows.set(row, START, start);
            rows.set(row, LENGTH, length);
            rows.set(row, NEXT, first);
            buckets.set(bucket, 0, row);
            return row;
        }

        private boolean matches(int row, int length) {
            if (rows.get(row, LENGTH) != length) {
                return false;
            }
            int from = rows.get(row, START);
            for (int i = 0; i < length; i++) {
                if (signs.get(from + i, 0) != signs.get(start + i, 0)) {
                    return false;
                }
            }
            return true;
        }
    }

    /** A tape's tokens; bytes that no token can have become tokens that can stand nowhere. */
    private static final class Lexer {
        static final int TOKEN = 0;
        static final int PLACE = 1;
        static final int CONTENT = 2;

        static final int END = 0;
        static final int NAME = 1;
        static final int LONG_NAME = 2;
        static final int WORD = 3;
        static final int NUMBER = 4;
        /** 2147483648, which may stand behind push - alone. */
        static final int EDGE_NUMBER = 5;
        static final int SIGN = 6;
        static final int BAD = 7;

        private static final long EDGE = 2147483648L;

        final Table tokens;
        final Names names;
        private final Table tape;

        Lexer(Table tape) {
            this.tape = tape;
            tokens = new Table(TAPE_BYTES + 1, 3);
            names = new Names();
        }

        void scan() {
            tokens.resize(0);
            names.reset();
            int length = tape.size();
            int at = 0;
            for (int turn = 0; turn < length && at < length; turn++) {
                int sign = byteAt(at);
                if (isBlank(sign)) {
                    at++;
                } else if (sign == '#') {
                    at = endOfLine(at, length);
                } else if (isLetter(sign)) {
                    at = scanName(at, length);
                } else if (isDigit(sign)) {
                    at = scanNumber(at, length);
                } else {
                    addToken(isSign(sign) ? SIGN : BAD, at, sign);
                    at++;
                }
            }
            addToken(END, length, 0);
        }

        private int endOfLine(int start, int length) {
            int at = start;
            while (at < length && byteAt(at) != 10) {
                at++;
            }
            return at;
        }

        private int scanName(int start, int length) {
            int at = start;
            names.begin();
            while (at < length && (isLetter(byteAt(at)) || isDigit(byteAt(at)))) {
                names.put(byteAt(at));
                at++;
            }
            int name = names.finish();
            if (at - start > NAME_SIGNS) {
                addToken(LONG_NAME, start, 0);
            } else {
                addToken(name < FIRST_NAME ? WORD : NAME, start, name);
            }
            return at;
        }

        /** A 0 is a number of its own: a digit right behind it begins the next token, as no blank need stand between. */
        private int scanNumber(int start, int length) {
            int at = start;
            long number = 0;
            while (at < length && isDigit(byteAt(at)) && (number != 0 || at == start)) {
                number = Math.min(number * 10 + byteAt(at) - '0', EDGE + 1);
                at++;
            }
            if (number > EDGE) {
                addToken(BAD, start, 0);
            } else {
                addToken(number == EDGE ? EDGE_NUMBER : NUMBER, start, (int) number);
            }
            return at;
        }

        private int byteAt(int at) {
            return tape.get(at, 0);
        }

        private void addToken(int token, int place, int content) {
            int row = tokens.add();
            tokens.set(row, TOKEN, token);
            tokens.set(row, PLACE, place);
            tokens.set(row, CONTENT, content);
        }

        private static boolean isBlank(int sign) {
            return sign == 9 || sign == 10 || sign == 13 || sign == 32;
        }

        private static boolean isLetter(int sign) {
            return sign >= 'a' && sign <= 'z' || sign >= 'A' && sign <= 'Z';
        }

        private static boolean isDigit(int sign) {
            return sign >= '0' && sign <= '9';
        }

        private static boolean isSign(int sign) {
            return "{}();:,-".indexOf((char) sign) >= 0;
        }
    }

    /** What a text says by names, and at which places: needed for its FAULTS alone. */
    private static final class Draft {
        /** Classes, by their numbers. */
        static final int NAME_PLACE = 0;
        static final int PARENT_NAME = 1;
        static final int PARENT_PLACE = 2;
        /** Members: also the class they stand in; labels: also the instruction they stand at. */
        static final int NAME = 0;
        static final int PLACE = 1;
        static final int OWNER = 2;
        static final int AT = 2;
        /** METHODS, besides NAME_PLACE. */
        static final int END_PLACE = 1;
        static final int FIRST_LABEL = 2;
        static final int LABEL_COUNT = 3;
        /** Instructions, besides those of what is told to them, at Program.A and Program.B. */
        static final int WORD_PLACE = 0;

        final Table classes;
        final Table members;
        final Table methods;
        final Table labels;
        final Table codes;
        final Table tries;

        Draft() {
            classes = new Table(CLASSES, 3);
            members = new Table(FIELDS + STATICS + METHODS, 3);
            methods = new Table(METHODS, 4);
            labels = new Table(LABELS, 3);
            codes = new Table(CODES, 3);
            tries = new Table(METHODS * METHOD_TRIES, 4);
        }

        void reset() {
            classes.resize(FIRST_CLASSES);
            members.resize(0);
            methods.resize(0);
            labels.resize(0);
            codes.resize(0);
            tries.resize(0);
        }
    }

    /** A program; until it is linked, names' numbers stand where labels, classes and members come to stand. */
    private static final class Program {
        /** Fields, statics, METHODS: the class they stand in, their name; SORT is 1 for a virtual. */
        static final int CLASS = 0;
        static final int NAME = 1;
        static final int SORT = 2;
        /** Fields and statics. */
        static final int KIND = 3;
        static final int OFFSET = 4;
        /** METHODS. */
        static final int RESULT = 3;
        static final int KIND_COUNT = 4;
        static final int FIRST_CODE = 5;
        static final int CODE_COUNT = 6;
        static final int FIRST_TRY = 7;
        static final int TRY_COUNT = 8;
        static final int DEEPEST = 9;
        static final int FIRST_KIND = 10;
        /** Classes, besides NAME. */
        static final int PARENT = 0;
        static final int FIRST_FIELD = 2;
        static final int OWN_FIELDS = 3;
        static final int ALL_FIELDS = 4;
        static final int OWN_METHODS = 5;
        /** Instructions. */
        static final int OP = 0;
        static final int A = 1;
        static final int B = 2;
        /** Tries. */
        static final int FROM = 0;
        static final int TO = 1;
        static final int AT = 2;
        static final int CAUGHT = 3;

        final Table classes;
        final Table fields;
        final Table statics;
        final Table methods;
        final Table codes;
        final Table tries;
        /** By an OBJECT's class and the virtual that was looked up: the one that is called. */
        final Table called;

        Program() {
            classes = new Table(CLASSES, 6);
            fields = new Table(FIELDS, 5);
            statics = new Table(STATICS, 4);
            methods = new Table(METHODS, FIRST_KIND + KINDS);
            codes = new Table(CODES, 3);
            tries = new Table(METHODS * METHOD_TRIES, 4);
            called = new Table(CLASSES, METHODS);
            reset();
        }

        void reset() {
            fields.resize(0);
            statics.resize(0);
            methods.resize(0);
            codes.resize(0);
            tries.resize(0);
            classes.resize(0);
            for (int c = 0; c < FIRST_CLASSES; c++) {
                addClass(FIRST_NAME + c);
                classes.set(c, PARENT, c == ANY ? NONE : c == FAULT ? ANY : FAULT);
            }
        }

        int addClass(int name) {
            int row = classes.add();
            classes.set(row, PARENT, ANY);
            classes.set(row, NAME, name);
            classes.set(row, FIRST_FIELD, fields.size());
            classes.set(row, OWN_FIELDS, 0);
            classes.set(row, ALL_FIELDS, 0);
            classes.set(row, OWN_METHODS, 0);
            return row;
        }

        /** An ARRAY is of Any alone. */
        boolean isOf(int thing, int wanted) {
            int c = thing < 0 ? ANY : thing;
            for (int step = 0; step < CLASSES && c != NONE; step++) {
                if (c == wanted) {
                    return true;
                }
                c = classes.get(c, PARENT);
            }
            return false;
        }

        /** The row of the first member of this name and sort, of the class or else of the next one above. */
        int nearest(Table members, int from, int name, int sort) {
            int c = from;
            for (int step = 0; step < CLASSES && c != NONE; step++) {
                for (int row = 0; row < members.size(); row++) {
                    if (members.get(row, NAME) == name && members.get(row, CLASS) == c && members.get(row, SORT) == sort) {
                        return row;
                    }
                }
                c = classes.get(c, PARENT);
            }
            return NONE;
        }

        int kindOf(int method, int i) {
            return i < KINDS ? methods.get(method, FIRST_KIND + i) : 0;
        }
    }

    /** Reads tokens into a program and a draft, or finds where the text is WRONG. */
    private static final class Parser {
        private static final int OUTSIDE = 0;
        private static final int IN_CLASS = 1;
        private static final int IN_METHOD = 2;
        private static final int FINISHED = 3;

        private final Table tokens;
        private final Draft draft;
        private Program program;
        private int next;
        private int level;
        private int wrongAt;
        private int taken;

        Parser(Table tokens, Draft draft, Program program) {
            this.tokens = tokens;
            this.draft = draft;
            this.program = program;
        }

        /** NONE, or the place at which the text is WRONG. */
        int readText(Program into) {
            program = into;
            program.reset();
            draft.reset();
            next = 0;
            level = OUTSIDE;
            wrongAt = NONE;
            for (int turn = 0; turn <= TAPE_BYTES && wrongAt == NONE && level != FINISHED; turn++) {
                if (level == OUTSIDE) {
                    readClassHead();
                } else if (level == IN_CLASS) {
                    readMember();
                } else {
                    readItem();
                }
            }
            return wrongAt;
        }

        private void readClassHead() {
            int c = program.classes.size();
            if (token() == Lexer.END && c > FIRST_CLASSES) {
                level = FINISHED;
                return;
            }
            if (!isWord(WORD_CLASS) || c >= CLASSES) {
                wrongHere();
                return;
            }
            next++;
            program.addClass(takeName());
            draft.classes.add();
            draft.classes.set(c, Draft.NAME_PLACE, taken);
            draft.classes.set(c, Draft.PARENT_NAME, NONE);
            if (isSign(':')) {
                next++;
                draft.classes.set(c, Draft.PARENT_NAME, takeName());
                draft.classes.set(c, Draft.PARENT_PLACE, taken);
            }
            takeSign('{');
            level = IN_CLASS;
        }

        private void readMember() {
            if (isSign('}')) {
                next++;
                level = OUTSIDE;
            } else if (isWord(WORD_FIELD)) {
                readField();
            } else if (isWord(WORD_STATIC)) {
                readStatic();
            } else if (isWord(WORD_METHOD)) {
                readMethodHead(0);
            } else if (isWord(WORD_VIRTUAL)) {
                readMethodHead(1);
            } else {
                wrongHere();
            }
        }

        private void readField() {
            int own = program.classes.get(thisClass(), Program.OWN_FIELDS);
            if (own >= CLASS_FIELDS) {
                wrongHere();
                return;
            }
            program.classes.set(thisClass(), Program.OWN_FIELDS, own + 1);
            int row = startMember(program.fields, 0);
            program.fields.set(row, Program.KIND, takeKind(false));
            takeSign(';');
        }

        private void readStatic() {
            if (program.statics.size() >= STATICS) {
                wrongHere();
                return;
            }
            int row = startMember(program.statics, 0);
            program.statics.set(row, Program.KIND, takeKind(false));
            takeSign(';');
        }

        private void readMethodHead(int sort) {
            if (program.methods.size() >= METHODS) {
                wrongHere();
                return;
            }
            Table methods = program.methods;
            int own = program.classes.get(thisClass(), Program.OWN_METHODS);
            program.classes.set(thisClass(), Program.OWN_METHODS, own + 1);
            int row = startMember(methods, sort);
            draft.methods.add();
            draft.methods.set(row, Draft.NAME_PLACE, taken);
            draft.methods.set(row, Draft.FIRST_LABEL, draft.labels.size());
            draft.methods.set(row, Draft.LABEL_COUNT, 0);
            readKinds(row);
            methods.set(row, Program.RESULT, takeKind(true));
            methods.set(row, Program.FIRST_CODE, program.codes.size());
            methods.set(row, Program.CODE_COUNT, 0);
            methods.set(row, Program.FIRST_TRY, program.tries.size());
            methods.set(row, Program.TRY_COUNT, 0);
            methods.set(row, Program.DEEPEST, 0);
            takeSign('{');
            level = IN_METHOD;
        }

        private void readKinds(int row) {
            int kinds = 0;
            takeSign('(');
            if (!isSign(')')) {
                program.methods.set(row, Program.FIRST_KIND, takeKind(false));
                kinds = 1;
            }
            while (kinds > 0 && kinds < KINDS && isSign(',')) {
                next++;
                program.methods.set(row, Program.FIRST_KIND + kinds, takeKind(false));
                kinds++;
            }
            program.methods.set(row, Program.KIND_COUNT, kinds);
            takeSign(')');
        }

        private int startMember(Table members, int sort) {
            next++;
            int name = takeName();
            int row = members.add();
            members.set(row, Program.CLASS, thisClass());
            members.set(row, Program.NAME, name);
            members.set(row, Program.SORT, sort);
            int told = draft.members.add();
            draft.members.set(told, Draft.OWNER, thisClass());
            draft.members.set(told, Draft.NAME, name);
            draft.members.set(told, Draft.PLACE, taken);
            return row;
        }

        private void readItem() {
            if (isSign('}')) {
                draft.methods.set(thisMethod(), Draft.END_PLACE, placeHere());
                next++;
                level = IN_CLASS;
            } else if (isWord(WORD_TRY)) {
                readTry();
            } else if (token() == Lexer.WORD && content() < WORD_CLASS) {
                readCode(content());
            } else {
                readLabel();
            }
        }

        private void readLabel() {
            int name = takeName();
            int row = draft.labels.add();
            draft.labels.set(row, Draft.NAME, name);
            draft.labels.set(row, Draft.PLACE, taken);
            draft.labels.set(row, Draft.AT, program.methods.get(thisMethod(), Program.CODE_COUNT));
            int labels = draft.methods.get(thisMethod(), Draft.LABEL_COUNT);
            draft.methods.set(thisMethod(), Draft.LABEL_COUNT, labels + 1);
            takeSign(':');
        }

        private void readTry() {
            int tries = program.methods.get(thisMethod(), Program.TRY_COUNT);
            if (tries >= METHOD_TRIES) {
                wrongHere();
                return;
            }
            program.methods.set(thisMethod(), Program.TRY_COUNT, tries + 1);
            next++;
            int row = program.tries.add();
            draft.tries.add();
            for (int column = Program.FROM; column <= Program.CAUGHT; column++) {
                program.tries.set(row, column, takeName());
                draft.tries.set(row, column, taken);
            }
            takeSign(';');
        }

        private void readCode(int op) {
            int codes = program.methods.get(thisMethod(), Program.CODE_COUNT);
            if (codes >= METHOD_CODES) {
                wrongHere();
                return;
            }
            program.methods.set(thisMethod(), Program.CODE_COUNT, codes + 1);
            int row = program.codes.add();
            draft.codes.add();
            program.codes.set(row, Program.OP, op);
            draft.codes.set(row, Draft.WORD_PLACE, placeHere());
            next++;
            switch (shapeOf(op)) {
                case SHAPE_NUMBER:
                    program.codes.set(row, Program.A, takeSigned(MOST_INT));
                    break;
                case SHAPE_LOCAL:
                    program.codes.set(row, Program.A, takeNumber(LOCALS - 1));
                    break;
                case SHAPE_LOCAL_NUMBER:
                    program.codes.set(row, Program.A, takeNumber(LOCALS - 1));
                    program.codes.set(row, Program.B, takeSigned(INC_MOST));
                    break;
                case SHAPE_LABEL:
                case SHAPE_CLASS:
                    readToldName(row, Program.A);
                    break;
                case SHAPE_MEMBER:
                    readToldName(row, Program.A);
                    readToldName(row, Program.B);
                    break;
                case SHAPE_MASK:
                    program.codes.set(row, Program.A, takeNumber(ALL_MARKS));
                    break;
                default:
                    break;
            }
            takeSign(';');
        }

        private void readToldName(int row, int column) {
            program.codes.set(row, column, takeName());
            draft.codes.set(row, column, taken);
        }

        /** Leaves the name's place in taken. */
        private int takeName() {
            if (token() == Lexer.LONG_NAME) {
                wrongAt = placeHere() + NAME_SIGNS;
                return NONE;
            }
            if (token() != Lexer.NAME) {
                wrongHere();
                return NONE;
            }
            taken = placeHere();
            next++;
            return tokens.get(next - 1, Lexer.CONTENT);
        }

        private int takeKind(boolean noneToo) {
            int kind = isWord(WORD_INT) ? INT : isWord(WORD_REF) ? REF : 0;
            if (kind == 0 && !(noneToo && isWord(WORD_NONE))) {
                wrongHere();
                return 0;
            }
            next++;
            return kind;
        }

        private int takeSigned(int most) {
            if (!isSign('-')) {
                return takeNumber(most);
            }
            next++;
            if (most == MOST_INT && token() == Lexer.EDGE_NUMBER) {
                next++;
                return LEAST_INT;
            }
            return -takeNumber(most);
        }

        private int takeNumber(int most) {
            if (token() != Lexer.NUMBER || content() > most) {
                wrongHere();
                return 0;
            }
            next++;
            return tokens.get(next - 1, Lexer.CONTENT);
        }

        private void takeSign(int sign) {
            if (isSign(sign)) {
                next++;
            } else {
                wrongHere();
            }
        }

        private boolean isSign(int sign) {
            return wrongAt == NONE && tokens.get(next, Lexer.TOKEN) == Lexer.SIGN && tokens.get(next, Lexer.CONTENT) == sign;
        }

        private boolean isWord(int word) {
            return wrongAt == NONE && tokens.get(next, Lexer.TOKEN) == Lexer.WORD && tokens.get(next, Lexer.CONTENT) == word;
        }

        /** Only the first place counts: what is read behind it finds nothing to stand on. */
        private void wrongHere() {
            if (wrongAt == NONE) {
                wrongAt = tokens.get(next, Lexer.PLACE);
            }
        }

        private int token() {
            return wrongAt == NONE ? tokens.get(next, Lexer.TOKEN) : Lexer.BAD;
        }

        private int content() {
            return tokens.get(next, Lexer.CONTENT);
        }

        private int placeHere() {
            return tokens.get(next, Lexer.PLACE);
        }

        private int thisClass() {
            return program.classes.size() - 1;
        }

        private int thisMethod() {
            return program.methods.size() - 1;
        }
    }

    /** Puts labels, classes and members where their names stand, or finds the first FAULT of kinds 1 to 4. */
    private static final class Linker {
        private static final int TOLD_AGAIN = 1;
        private static final int NO_SUCH_NAME = 2;
        private static final int OTHER_VIRTUAL = 3;
        private static final int EMPTY_TRY = 4;

        private final Table names;
        private final Draft draft;
        private Program program;
        private int faultKind;
        int faultPlace;

        Linker(Names names, Draft draft, Program program) {
            this.names = names.rows;
            this.draft = draft;
            this.program = program;
        }

        /** The FAULT's kind, or 0. */
        int link(Program linked) {
            program = linked;
            faultKind = 0;
            faultPlace = NONE;
            for (int c = 0; c < program.classes.size(); c++) {
                linkClass(c);
            }
            linkFields();
            lookForMembersAgain();
            for (int m = 0; m < program.methods.size(); m++) {
                linkVirtual(m);
                linkLabels(m);
                linkTries(m);
                linkCodes(m);
            }
            if (faultKind == 0) {
                fillCalled();
            }
            return faultKind;
        }

        private void noteFault(int place, int kind) {
            if (faultKind == 0 || place < faultPlace || place == faultPlace && kind < faultKind) {
                faultKind = kind;
                faultPlace = place;
            }
        }

        /** Only classes above have their numbers in names yet, so a PARENT below is none. */
        private void linkClass(int c) {
            int name = program.classes.get(c, Program.NAME);
            if (c >= FIRST_CLASSES && draft.classes.get(c, Draft.PARENT_NAME) != NONE) {
                int parent = names.get(draft.classes.get(c, Draft.PARENT_NAME), Names.CLASS);
                if (parent == NONE) {
                    noteFault(draft.classes.get(c, Draft.PARENT_PLACE), NO_SUCH_NAME);
                } else {
                    program.classes.set(c, Program.PARENT, parent);
                }
            }
            if (names.get(name, Names.CLASS) == NONE) {
                names.set(name, Names.CLASS, c);
            } else {
                noteFault(draft.classes.get(c, Draft.NAME_PLACE), TOLD_AGAIN);
            }
        }

        private void linkFields() {
            for (int c = FIRST_CLASSES; c < program.classes.size(); c++) {
                int above = program.classes.get(program.classes.get(c, Program.PARENT), Program.ALL_FIELDS);
                int first = program.classes.get(c, Program.FIRST_FIELD);
                int own = program.classes.get(c, Program.OWN_FIELDS);
                for (int i = 0; i < own; i++) {
                    program.fields.set(first + i, Program.OFFSET, above + i);
                }
                program.classes.set(c, Program.ALL_FIELDS, above + own);
            }
        }

        private void lookForMembersAgain() {
            Table members = draft.members;
            for (int i = 0; i < members.size(); i++) {
                for (int j = 0; j < i; j++) {
                    if (members.get(i, Draft.NAME) == members.get(j, Draft.NAME)
                            && members.get(i, Draft.OWNER) == members.get(j, Draft.OWNER)) {
                        noteFault(members.get(i, Draft.PLACE), TOLD_AGAIN);
                    }
                }
            }
        }

        private void linkVirtual(int m) {
            if (program.methods.get(m, Program.SORT) == 0) {
                return;
            }
            int parent = program.classes.get(program.methods.get(m, Program.CLASS), Program.PARENT);
            int above = program.nearest(program.methods, parent, program.methods.get(m, Program.NAME), 1);
            if (above != NONE && !haveSameKinds(m, above)) {
                noteFault(draft.methods.get(m, Draft.NAME_PLACE), OTHER_VIRTUAL);
            }
        }

        private boolean haveSameKinds(int m, int other) {
            int kinds = program.methods.get(m, Program.KIND_COUNT);
            if (kinds != program.methods.get(other, Program.KIND_COUNT)
                    || program.methods.get(m, Program.RESULT) != program.methods.get(other, Program.RESULT)) {
                return false;
            }
            for (int i = 0; i < kinds; i++) {
                if (program.kindOf(m, i) != program.kindOf(other, i)) {
                    return false;
                }
            }
            return true;
        }

        private void linkLabels(int m) {
            int first = draft.methods.get(m, Draft.FIRST_LABEL);
            int behind = first + draft.methods.get(m, Draft.LABEL_COUNT);
            for (int row = first; row < behind; row++) {
                int name = draft.labels.get(row, Draft.NAME);
                if (names.get(name, Names.LABEL_METHOD) == m) {
                    noteFault(draft.labels.get(row, Draft.PLACE), TOLD_AGAIN);
                } else {
                    names.set(name, Names.LABEL_METHOD, m);
                    names.set(name, Names.LABEL_AT, draft.labels.get(row, Draft.AT));
                }
            }
        }

        private void linkTries(int m) {
            Table tries = program.tries;
            int first = program.methods.get(m, Program.FIRST_TRY);
            int behind = first + program.methods.get(m, Program.TRY_COUNT);
            for (int row = first; row < behind; row++) {
                int from = labelled(m, tries.get(row, Program.FROM), draft.tries.get(row, Program.FROM));
                int to = labelled(m, tries.get(row, Program.TO), draft.tries.get(row, Program.TO));
                int at = labelled(m, tries.get(row, Program.AT), draft.tries.get(row, Program.AT));
                if (from != NONE && to != NONE && at != NONE && to <= from) {
                    noteFault(draft.tries.get(row, Program.FROM), EMPTY_TRY);
                }
                tries.set(row, Program.FROM, from);
                tries.set(row, Program.TO, to);
                tries.set(row, Program.AT, at);
                int caught = classNamed(tries.get(row, Program.CAUGHT), draft.tries.get(row, Program.CAUGHT));
                tries.set(row, Program.CAUGHT, caught);
            }
        }

        private void linkCodes(int m) {
            Table codes = program.codes;
            int first = program.methods.get(m, Program.FIRST_CODE);
            int behind = first + program.methods.get(m, Program.CODE_COUNT);
            for (int row = first; row < behind; row++) {
                int shape = shapeOf(codes.get(row, Program.OP));
                int name = codes.get(row, Program.A);
                int place = draft.codes.get(row, Program.A);
                if (shape == SHAPE_LABEL) {
                    codes.set(row, Program.A, labelled(m, name, place));
                } else if (shape == SHAPE_CLASS) {
                    codes.set(row, Program.A, classNamed(name, place));
                } else if (shape == SHAPE_MEMBER) {
                    linkMember(row, classNamed(name, place));
                }
            }
        }

        private void linkMember(int row, int c) {
            if (c == NONE) {
                return;
            }
            int op = program.codes.get(row, Program.OP);
            Table members = op == OP_CALL || op == OP_VIRT ? program.methods
                : op == OP_GETS || op == OP_PUTS ? program.statics : program.fields;
            int found = program.nearest(members, c, program.codes.get(row, Program.B), op == OP_VIRT ? 1 : 0);
            if (found == NONE) {
                noteFault(draft.codes.get(row, Program.B), NO_SUCH_NAME);
            }
            program.codes.set(row, Program.A, c);
            program.codes.set(row, Program.B, found);
        }

        private int labelled(int m, int name, int place) {
            if (names.get(name, Names.LABEL_METHOD) != m) {
                noteFault(place, NO_SUCH_NAME);
                return NONE;
            }
            return names.get(name, Names.LABEL_AT);
        }

        private int classNamed(int name, int place) {
            int c = names.get(name, Names.CLASS);
            if (c == NONE) {
                noteFault(place, NO_SUCH_NAME);
            }
            return c;
        }

        private void fillCalled() {
            for (int m = 0; m < program.methods.size(); m++) {
                if (program.methods.get(m, Program.SORT) == 0) {
                    continue;
                }
                for (int c = FIRST_CLASSES; c < program.classes.size(); c++) {
                    int name = program.methods.get(m, Program.NAME);
                    program.called.set(c, m, program.nearest(program.methods, c, name, 1));
                }
            }
        }
    }

    /** Looks at the CODE of METHODS: what STACK and locals each instruction is come to with. */
    private static final class Verifier {
        static final int KIND = 5;

        private static final int SEEN = 0;
        private static final int FRESH = 1;
        private static final int DEPTH = 2;
        private static final int REFS = 3;
        private static final int MAY_INT = 4;
        private static final int MAY_REF = 5;
        private static final int MAY_UNSET = 6;
        private static final int COLUMNS = 7;

        /** Each instruction is fresh once, and then once for each thing more that one of 16 locals may be. */
        private static final int TURNS = METHOD_CODES * (1 + 2 * LOCALS);

        private final Draft draft;
        private final Table states;
        private Program program;
        private int method;
        private int firstCode;
        private int codeCount;
        private int faultPlace;
        /** The state that is worked on; bits tell which of the STACK are refs, and what each local may be. */
        private int depth;
        private int refs;
        private int mayInt;
        private int mayRef;
        private int mayUnset;

        Verifier(Draft draft, Program program) {
            this.draft = draft;
            this.program = program;
            states = new Table(METHOD_CODES, COLUMNS);
        }

        /** The place of the first FAULT 5, or NONE. */
        int check(Program checked) {
            program = checked;
            faultPlace = NONE;
            for (int m = 0; m < program.methods.size() && faultPlace == NONE; m++) {
                checkMethod(m);
            }
            return faultPlace;
        }

        private void checkMethod(int m) {
            method = m;
            firstCode = program.methods.get(m, Program.FIRST_CODE);
            codeCount = program.methods.get(m, Program.CODE_COUNT);
            states.fill(0);
            enter();
            comeTo(0);
            for (int turn = 0; turn < TURNS && faultPlace == NONE; turn++) {
                int i = lowestFresh();
                if (i == NONE) {
                    break;
                }
                visit(i);
            }
        }

        private void enter() {
            int own = program.methods.get(method, Program.SORT);
            int kinds = program.methods.get(method, Program.KIND_COUNT);
            depth = 0;
            refs = 0;
            mayInt = 0;
            mayRef = 0;
            mayUnset = (1 << LOCALS) - 1;
            if (own == 1) {
                setLocal(0, REF);
            }
            for (int i = 0; i < kinds; i++) {
                setLocal(own + i, program.kindOf(method, i));
            }
        }

        private int lowestFresh() {
            for (int i = 0; i < codeCount; i++) {
                if (states.get(i, FRESH) == 1) {
                    return i;
                }
            }
            return NONE;
        }

        private void visit(int i) {
            int op = program.codes.get(firstCode + i, Program.OP);
            states.set(i, FRESH, 0);
            restore(i);
            if (!apply(op, program.codes.get(firstCode + i, Program.A), program.codes.get(firstCode + i, Program.B))
                    || depth > STACK) {
                faultAt(i);
                return;
            }
            if (op != OP_GOTO && op != OP_RET && op != OP_THROW) {
                comeTo(i + 1);
            }
            if (shapeOf(op) == SHAPE_LABEL) {
                comeTo(program.codes.get(firstCode + i, Program.A));
            }
            restore(i);
            depth = 1;
            refs = 1;
            int first = program.methods.get(method, Program.FIRST_TRY);
            int behind = first + program.methods.get(method, Program.TRY_COUNT);
            for (int row = first; row < behind; row++) {
                if (i >= program.tries.get(row, Program.FROM) && i < program.tries.get(row, Program.TO)) {
                    comeTo(program.tries.get(row, Program.AT));
                }
            }
        }

        private void restore(int i) {
            depth = states.get(i, DEPTH);
            refs = states.get(i, REFS);
            mayInt = states.get(i, MAY_INT);
            mayRef = states.get(i, MAY_REF);
            mayUnset = states.get(i, MAY_UNSET);
        }

        private void comeTo(int i) {
            if (faultPlace != NONE) {
                return;
            }
            if (i >= codeCount) {
                faultPlace = draft.methods.get(method, Draft.END_PLACE);
            } else if (states.get(i, SEEN) == 0) {
                states.set(i, SEEN, 1);
                states.set(i, DEPTH, depth);
                states.set(i, REFS, refs);
                int deepest = program.methods.get(method, Program.DEEPEST);
                program.methods.set(method, Program.DEEPEST, Math.max(deepest, depth));
                states.set(i, FRESH, 1);
                addLocals(i);
            } else if (states.get(i, DEPTH) != depth || states.get(i, REFS) != refs) {
                faultAt(i);
            } else {
                addLocals(i);
            }
        }

        private void addLocals(int i) {
            addBits(i, MAY_INT, mayInt);
            addBits(i, MAY_REF, mayRef);
            addBits(i, MAY_UNSET, mayUnset);
        }

        private void addBits(int i, int column, int bits) {
            int before = states.get(i, column);
            if ((before | bits) != before) {
                states.set(i, column, before | bits);
                states.set(i, FRESH, 1);
            }
        }

        private void faultAt(int i) {
            faultPlace = draft.codes.get(firstCode + i, Draft.WORD_PLACE);
        }

        /** Whether the STACK and the locals are what the instruction takes; leaves the state behind it. */
        private boolean apply(int op, int a, int b) {
            switch (op) {
                case OP_LOAD: {
                    int kind = localKind(a);
                    put(kind);
                    return kind != 0;
                }
                case OP_STORE: {
                    int kind = takeAny();
                    setLocal(a, kind);
                    return kind != 0;
                }
                case OP_INC:
                    return localKind(a) == INT;
                case OP_DUP: {
                    int kind = takeAny();
                    put(kind);
                    put(kind);
                    return kind != 0;
                }
                case OP_POP:
                    return takeAny() != 0;
                case OP_SWAP: {
                    int top = takeAny();
                    int below = takeAny();
                    put(top);
                    put(below);
                    return below != 0;
                }
                case OP_RET: {
                    int wanted = program.methods.get(method, Program.RESULT);
                    return wanted == 0 || takeAny() == wanted;
                }
                default:
                    return applyMember(op, b);
            }
        }

        private boolean applyMember(int op, int b) {
            switch (op) {
                case OP_GET: {
                    boolean fits = takeAny() == REF;
                    put(program.fields.get(b, Program.KIND));
                    return fits;
                }
                case OP_PUT:
                    return takeAny() == program.fields.get(b, Program.KIND) && takeAny() == REF;
                case OP_GETS:
                    put(program.statics.get(b, Program.KIND));
                    return true;
                case OP_PUTS:
                    return takeAny() == program.statics.get(b, Program.KIND);
                case OP_CALL:
                case OP_VIRT: {
                    boolean fits = true;
                    for (int i = program.methods.get(b, Program.KIND_COUNT) - 1; i >= 0; i--) {
                        fits = takeAny() == program.kindOf(b, i) && fits;
                    }
                    fits = (op == OP_CALL || takeAny() == REF) && fits;
                    put(program.methods.get(b, Program.RESULT));
                    return fits;
                }
                default:
                    return applyPlain(op);
            }
        }

        private boolean applyPlain(int op) {
            boolean fits = true;
            for (int left = takesOf(op); left > 0; left = left / 10) {
                fits = takeAny() == left % 10 && fits;
            }
            put(givesOf(op));
            return fits;
        }

        /** The kind that was on top; 0 if there was none. */
        private int takeAny() {
            if (depth <= 0) {
                return 0;
            }
            depth--;
            int kind = (refs >> depth & 1) == 1 ? REF : INT;
            refs = refs & ~(1 << depth);
            return kind;
        }

        private void put(int kind) {
            if (kind == REF) {
                refs = refs | 1 << depth;
            }
            if (kind != 0) {
                depth++;
            }
        }

        /** The kind that a local is, or 0 if it may be another thing, too. */
        private int localKind(int k) {
            int may = (mayInt >> k & 1) + 2 * (mayRef >> k & 1) + 4 * (mayUnset >> k & 1);
            return may == 1 ? INT : may == 2 ? REF : 0;
        }

        private void setLocal(int k, int kind) {
            int bit = 1 << k;
            mayInt = kind == INT ? mayInt | bit : mayInt & ~bit;
            mayRef = kind == REF ? mayRef | bit : mayRef & ~bit;
            mayUnset = mayUnset & ~bit;
        }
    }

    /** What calls set for RUNS to come. */
    private static final class Settings {
        int flowBits;
        final Table policies;
        final Table inputs;
        /** The ARGUMENTS. */
        final Table given;

        Settings() {
            flowBits = 0;
            policies = new Table(CHANNELS, 1);
            inputs = new Table(CHANNELS, 1);
            given = new Table(ARGUMENTS, 2);
        }
    }

    /** OBJECTS and ARRAYS of a RUN; those without room are not made. */
    private static final class Heap {
        private static final int CLASS = 0;
        private static final int START = 1;
        private static final int LENGTH = 2;
        private static final int LENGTH_MARKS = 3;

        final Table things;
        private final Table slots;

        Heap() {
            things = new Table(RUN_CELLS, 4);
            slots = new Table(RUN_CELLS, 2);
        }

        void reset() {
            things.resize(0);
            slots.resize(0);
        }

        int cellsTaken() {
            return things.size() + slots.size();
        }

        /** The new one's number, or NULL if it would take too many CELLS. */
        int make(int c, int length, int lengthMarks) {
            if (length < 0 || length > RUN_CELLS - 1 - things.size() - slots.size()) {
                return NULL;
            }
            int start = slots.size();
            int first = c == REFS_CLASS ? NULL : 0;
            slots.resize(start + length);
            for (int i = 0; i < length; i++) {
                slots.setPair(start + i, first, 0);
            }
            int ref = things.add();
            things.set(ref, CLASS, c);
            things.set(ref, START, start);
            things.set(ref, LENGTH, length);
            things.set(ref, LENGTH_MARKS, lengthMarks);
            return ref;
        }

        int classOf(int ref) {
            return things.get(ref, CLASS);
        }

        int lengthOf(int ref) {
            return things.get(ref, LENGTH);
        }

        int lengthMarksOf(int ref) {
            return things.get(ref, LENGTH_MARKS);
        }

        boolean hasSlot(int ref, int k) {
            return things.holds(ref) && k >= 0 && k < lengthOf(ref);
        }

        int valueAt(int ref, int k) {
            return slots.get(things.get(ref, START) + k, Table.VALUE);
        }

        int marksAt(int ref, int k) {
            return slots.get(things.get(ref, START) + k, Table.MARKS);
        }

        void write(int ref, int k, int value, int marks) {
            slots.setPair(things.get(ref, START) + k, value, marks);
        }
    }

    /** Runs METHODS whose CODE has been looked at, so that kinds need no more asking. */
    private static final class Machine {
        /** Columns of events. */
        static final int ALARM = 3;

        private static final int RUNNING = -1;
        private static final int ENDED_BY_THROW = 3;
        private static final int TOO_MANY_CODES = 4;
        private static final int TOO_MANY_FRAMES = 5;
        private static final int TOO_MANY_CELLS = 6;
        private static final int TOO_MANY_EVENTS = 7;

        /** Columns of frames, for METHODS that have called. */
        private static final int METHOD = 0;
        private static final int AT = 1;
        private static final int DEPTH = 2;

        private final Settings settings;
        final Heap heap;
        final Table statics;
        final Table events;
        private final Table frames;
        /** Locals and then STACK of each frame. */
        private final Table values;
        private Program program;
        private int frame;
        private int method;
        private int at;
        private int following;
        private int depth;
        private boolean isThrown;
        boolean hasRun;
        int ending;
        /** What the RUN ended with; ahead of that, what is thrown. */
        int outcome;
        int outcomeMarks;
        int codesDone;
        int alarms;

        Machine(Settings settings, Program program) {
            this.settings = settings;
            this.program = program;
            heap = new Heap();
            statics = new Table(STATICS, 2);
            events = new Table(RUN_EVENTS, 4);
            frames = new Table(RUN_FRAMES, 3);
            values = new Table(RUN_FRAMES * FRAME_VALUES, 2);
            hasRun = false;
        }

        /** How the RUN ends. */
        int play(Program played, int first) {
            begin(played, first);
            for (int turn = 0; turn <= RUN_CODES && ending == RUNNING; turn++) {
                if (codesDone >= RUN_CODES) {
                    ending = TOO_MANY_CODES;
                    break;
                }
                int row = program.methods.get(method, Program.FIRST_CODE) + at;
                following = at + 1;
                step(program.codes.get(row, Program.OP), program.codes.get(row, Program.A), program.codes.get(row, Program.B));
                if (ending < TOO_MANY_CODES) {
                    codesDone++;
                }
                if (isThrown && ending == RUNNING) {
                    unwind();
                }
                at = following;
            }
            if (ending == 0 || ending > ENDED_BY_THROW) {
                outcome = 0;
                outcomeMarks = 0;
            }
            return ending;
        }

        private void begin(Program played, int first) {
            program = played;
            heap.reset();
            events.resize(0);
            for (int k = 0; k < program.statics.size(); k++) {
                statics.setPair(k, program.statics.get(k, Program.KIND) == REF ? NULL : 0, 0);
            }
            hasRun = true;
            ending = RUNNING;
            outcome = 0;
            outcomeMarks = 0;
            codesDone = 0;
            alarms = 0;
            isThrown = false;
            frame = 0;
            method = first;
            at = 0;
            depth = 0;
            int own = program.methods.get(first, Program.SORT);
            int taken = own + program.methods.get(first, Program.KIND_COUNT);
            for (int i = 0; i < taken; i++) {
                boolean isRef = i < own || program.kindOf(first, i - own) == REF;
                int value = isRef ? NULL : settings.given.get(i, Table.VALUE);
                values.setPair(local(i), value, settings.given.get(i, Table.MARKS));
            }
        }

        private void step(int op, int a, int b) {
            if (op <= OP_SWAP) {
                doStack(op, a, b);
            } else if (op <= OP_USHR) {
                doBinary(op);
            } else if (op == OP_NEG) {
                replace(1, -value(0), marks(0));
            } else if (op <= OP_OTHER) {
                doBranch(op, a);
            } else if (op <= OP_PUTS) {
                doField(op, a, b);
            } else if (op <= OP_LENGTH) {
                doArray(op);
            } else if (op <= OP_THROW) {
                doCall(op, a, b);
            } else {
                doMarks(op, a);
            }
        }

        private void doStack(int op, int a, int b) {
            switch (op) {
                case OP_PUSH:
                    push(a, 0);
                    break;
                case OP_NULL:
                    push(NULL, 0);
                    break;
                case OP_LOAD:
                    push(values.get(local(a), Table.VALUE), values.get(local(a), Table.MARKS));
                    break;
                case OP_STORE:
                    values.setPair(local(a), value(0), marks(0));
                    drop(1);
                    break;
                case OP_INC:
                    values.set(local(a), Table.VALUE, values.get(local(a), Table.VALUE) + b);
                    break;
                case OP_DUP:
                    push(value(0), marks(0));
                    break;
                case OP_POP:
                    drop(1);
                    break;
                case OP_SWAP: {
                    int below = value(1);
                    int belowMarks = marks(1);
                    replace(2, value(0), marks(0));
                    push(below, belowMarks);
                    break;
                }
                default:
                    break;
            }
        }

        private void doBinary(int op) {
            int left = value(1);
            int right = value(0);
            int both = marks(1) | marks(0);
            if (right == 0 && (op == OP_DIV || op == OP_REM)) {
                fault(DIVIDE_FAULT, both);
                return;
            }
            replace(2, combine(op, left, right), both);
        }

        private static int combine(int op, int left, int right) {
            switch (op) {
                case OP_ADD: return left + right;
                case OP_SUB: return left - right;
                case OP_MUL: return left * right;
                case OP_DIV: return right == 0 ? 0 : right == -1 ? -left : left / right;
                case OP_REM: return right == 0 || right == -1 ? 0 : left % right;
                case OP_AND: return left & right;
                case OP_OR: return left | right;
                case OP_XOR: return left ^ right;
                case OP_SHL: return left << (right & 31);
                case OP_SHR: return left >> (right & 31);
                default: return left >>> (right & 31);
            }
        }

        private void doBranch(int op, int label) {
            boolean goes;
            int takes = 1;
            if (op == OP_GOTO) {
                goes = true;
                takes = 0;
            } else if (op <= OP_IFLE) {
                goes = compare(op - OP_IFEQ, value(0), 0);
            } else if (op <= OP_CMPLE) {
                goes = compare(op - OP_CMPEQ, value(1), value(0));
                takes = 2;
            } else if (op <= OP_IFSOME) {
                goes = (value(0) == NULL) == (op == OP_IFNULL);
            } else {
                goes = (value(1) == value(0)) == (op == OP_SAME);
                takes = 2;
            }
            drop(takes);
            if (goes) {
                following = label;
            }
        }

        /** Relations are numbered as their instructions stand: eq, ne, lt, ge, gt, le. */
        private static boolean compare(int relation, int left, int right) {
            switch (relation) {
                case 0: return left == right;
                case 1: return left != right;
                case 2: return left < right;
                case 3: return left >= right;
                case 4: return left > right;
                default: return left <= right;
            }
        }

        private void doField(int op, int c, int member) {
            switch (op) {
                case OP_NEW:
                    makeObject(c);
                    break;
                case OP_GET:
                    getField(c, program.fields.get(member, Program.OFFSET));
                    break;
                case OP_PUT:
                    putField(c, program.fields.get(member, Program.OFFSET));
                    break;
                case OP_GETS:
                    push(statics.get(member, Table.VALUE), statics.get(member, Table.MARKS));
                    break;
                default:
                    statics.setPair(member, value(0), marks(0));
                    drop(1);
                    break;
            }
        }

        private void makeObject(int c) {
            int ref = heap.make(c, program.classes.get(c, Program.ALL_FIELDS), 0);
            if (ref == NULL) {
                ending = TOO_MANY_CELLS;
                return;
            }
            int above = c;
            for (int step = 0; step < CLASSES && above != NONE; step++) {
                int first = program.classes.get(above, Program.FIRST_FIELD);
                int behind = first + program.classes.get(above, Program.OWN_FIELDS);
                for (int f = first; f < behind; f++) {
                    if (program.fields.get(f, Program.KIND) == REF) {
                        heap.write(ref, program.fields.get(f, Program.OFFSET), NULL, 0);
                    }
                }
                above = program.classes.get(above, Program.PARENT);
            }
            push(ref, 0);
        }

        private void getField(int c, int k) {
            int ref = value(0);
            int refMarks = marks(0);
            int wrong = objectFault(ref, c);
            if (wrong != 0) {
                fault(wrong, refMarks);
                return;
            }
            replace(1, heap.valueAt(ref, k), heap.marksAt(ref, k) | flowing(READ_REF_FLOWS, refMarks));
        }

        private void putField(int c, int k) {
            int ref = value(1);
            int refMarks = marks(1);
            int wrong = objectFault(ref, c);
            if (wrong != 0) {
                fault(wrong, refMarks | marks(0));
                return;
            }
            heap.write(ref, k, value(0), marks(0) | flowing(WRITTEN_REF_FLOWS, refMarks));
            drop(2);
        }

        private void doArray(int op) {
            switch (op) {
                case OP_INTS:
                    makeArray(INTS_CLASS);
                    break;
                case OP_REFS:
                    makeArray(REFS_CLASS);
                    break;
                case OP_IGET:
                    getElement(INTS_CLASS);
                    break;
                case OP_RGET:
                    getElement(REFS_CLASS);
                    break;
                case OP_IPUT:
                    putElement(INTS_CLASS);
                    break;
                case OP_RPUT:
                    putElement(REFS_CLASS);
                    break;
                default:
                    getLength();
                    break;
            }
        }

        private void makeArray(int c) {
            int length = value(0);
            int lengthMarks = marks(0);
            if (length < 0) {
                fault(SIZE_FAULT, lengthMarks);
                return;
            }
            int ref = heap.make(c, length, lengthMarks);
            if (ref == NULL) {
                ending = TOO_MANY_CELLS;
                return;
            }
            replace(1, ref, 0);
        }

        private void getElement(int c) {
            int ref = value(1);
            int k = value(0);
            int wrong = elementFault(ref, c, k);
            if (wrong != 0) {
                fault(wrong, marks(1) | marks(0));
                return;
            }
            int added = flowing(READ_REF_FLOWS, marks(1)) | flowing(INDEX_FLOWS, marks(0));
            replace(2, heap.valueAt(ref, k), heap.marksAt(ref, k) | added);
        }

        private void putElement(int c) {
            int ref = value(2);
            int k = value(1);
            int wrong = elementFault(ref, c, k);
            if (wrong != 0) {
                fault(wrong, marks(2) | marks(1) | marks(0));
                return;
            }
            int added = flowing(WRITTEN_REF_FLOWS, marks(2)) | flowing(INDEX_FLOWS, marks(1));
            heap.write(ref, k, value(0), marks(0) | added);
            drop(3);
        }

        private void getLength() {
            int ref = value(0);
            int refMarks = marks(0);
            if (ref == NULL) {
                fault(NULL_FAULT, refMarks);
            } else if (heap.classOf(ref) >= 0) {
                fault(CAST_FAULT, refMarks);
            } else {
                replace(1, heap.lengthOf(ref), heap.lengthMarksOf(ref) | flowing(READ_REF_FLOWS, refMarks));
            }
        }

        private void doCall(int op, int c, int called) {
            switch (op) {
                case OP_CALL:
                    enter(called, program.methods.get(called, Program.KIND_COUNT));
                    break;
                case OP_VIRT:
                    callVirtual(c, called);
                    break;
                case OP_RET:
                    leave();
                    break;
                default:
                    if (value(0) == NULL) {
                        fault(NULL_FAULT, marks(0));
                    } else {
                        raise(value(0), marks(0));
                    }
                    break;
            }
        }

        private void callVirtual(int c, int told) {
            int taken = program.methods.get(told, Program.KIND_COUNT) + 1;
            int ref = value(taken - 1);
            int wrong = objectFault(ref, c);
            if (wrong != 0) {
                int all = 0;
                for (int i = 0; i < taken; i++) {
                    all = all | marks(i);
                }
                fault(wrong, all);
                return;
            }
            enter(program.called.get(heap.classOf(ref), told), taken);
        }

        private void enter(int called, int taken) {
            if (frame + 1 >= RUN_FRAMES) {
                ending = TOO_MANY_FRAMES;
                return;
            }
            int from = onStack(taken - 1);
            frames.set(frame, METHOD, method);
            frames.set(frame, AT, at);
            frames.set(frame, DEPTH, depth - taken);
            frame++;
            method = called;
            depth = 0;
            following = 0;
            for (int i = 0; i < taken; i++) {
                values.setPair(local(i), values.get(from + i, Table.VALUE), values.get(from + i, Table.MARKS));
            }
        }

        private void leave() {
            int kind = program.methods.get(method, Program.RESULT);
            int value = value(0);
            int valueMarks = marks(0);
            if (frame == 0) {
                ending = kind;
                outcome = value;
                outcomeMarks = valueMarks;
                return;
            }
            backToCaller();
            following = at + 1;
            if (kind != 0) {
                push(value, valueMarks);
            }
        }

        private void backToCaller() {
            frame--;
            method = frames.get(frame, METHOD);
            at = frames.get(frame, AT);
            depth = frames.get(frame, DEPTH);
        }

        private void doMarks(int op, int a) {
            switch (op) {
                case OP_IS:
                    replace(1, value(0) != NULL && program.isOf(heap.classOf(value(0)), a) ? 1 : 0, marks(0));
                    break;
                case OP_AS:
                    if (value(0) != NULL && !program.isOf(heap.classOf(value(0)), a)) {
                        fault(CAST_FAULT, marks(0));
                    }
                    break;
                case OP_SOURCE:
                    push(settings.inputs.get(a, 0), 1 << a);
                    break;
                case OP_SINK:
                    tell(a, value(0), marks(0));
                    drop(1);
                    break;
                case OP_CLEAN:
                    replace(1, value(0), marks(0) & ~a);
                    break;
                default:
                    replace(1, value(0), marks(0) | a);
                    break;
            }
        }

        private void tell(int channel, int told, int toldMarks) {
            int row = events.add();
            if (row == NONE) {
                ending = TOO_MANY_EVENTS;
                return;
            }
            int alarm = (settings.policies.get(channel, 0) & toldMarks) != 0 ? 1 : 0;
            events.set(row, 0, channel);
            events.set(row, 1, told);
            events.set(row, 2, toldMarks);
            events.set(row, ALARM, alarm);
            alarms = alarms + alarm;
        }

        private void fault(int c, int takenMarks) {
            int ref = heap.make(c, 0, 0);
            if (ref == NULL) {
                ending = TOO_MANY_CELLS;
            } else {
                raise(ref, takenMarks);
            }
        }

        private void raise(int ref, int refMarks) {
            isThrown = true;
            outcome = ref;
            outcomeMarks = refMarks;
        }

        private void unwind() {
            int thrown = heap.classOf(outcome);
            int catching = tryFor(thrown);
            for (int step = 0; step < RUN_FRAMES && catching == NONE && frame > 0; step++) {
                backToCaller();
                catching = tryFor(thrown);
            }
            isThrown = false;
            if (catching == NONE) {
                ending = ENDED_BY_THROW;
                return;
            }
            depth = 0;
            push(outcome, outcomeMarks);
            following = program.tries.get(catching, Program.AT);
        }

        /** The first try that the instruction lies in and that catches what is thrown, or NONE. */
        private int tryFor(int thrown) {
            Table tries = program.tries;
            int first = program.methods.get(method, Program.FIRST_TRY);
            int behind = first + program.methods.get(method, Program.TRY_COUNT);
            for (int row = first; row < behind; row++) {
                if (at >= tries.get(row, Program.FROM) && at < tries.get(row, Program.TO)
                        && program.isOf(thrown, tries.get(row, Program.CAUGHT))) {
                    return row;
                }
            }
            return NONE;
        }

        /** The FAULT of a ref that must be an OBJECT of a class, or 0. */
        private int objectFault(int ref, int c) {
            if (ref == NULL) {
                return NULL_FAULT;
            }
            return program.isOf(heap.classOf(ref), c) ? 0 : CAST_FAULT;
        }

        /** The FAULT of a ref that must be such an ARRAY, and of an index that must be in it, or 0. */
        private int elementFault(int ref, int c, int k) {
            if (ref == NULL) {
                return NULL_FAULT;
            }
            if (heap.classOf(ref) != c) {
                return CAST_FAULT;
            }
            return k < 0 || k >= heap.lengthOf(ref) ? BOUNDS_FAULT : 0;
        }

        private int flowing(int flow, int flowingMarks) {
            return (settings.flowBits & flow) != 0 ? flowingMarks : 0;
        }

        private int local(int k) {
            return frame * FRAME_VALUES + k;
        }

        /** The row of the VALUE that has so many above it. */
        private int onStack(int above) {
            return frame * FRAME_VALUES + LOCALS + depth - 1 - above;
        }

        private int value(int above) {
            return values.get(onStack(above), Table.VALUE);
        }

        private int marks(int above) {
            return values.get(onStack(above), Table.MARKS);
        }

        private void push(int value, int valueMarks) {
            depth++;
            values.setPair(onStack(0), value, valueMarks);
        }

        private void drop(int taken) {
            depth = depth - taken;
        }

        private void replace(int taken, int value, int valueMarks) {
            drop(taken);
            push(value, valueMarks);
        }
    }
}
