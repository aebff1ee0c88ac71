import java.util.ArrayList;
import java.util.Arrays;
import java.util.HashMap;
import java.util.HashSet;
import java.util.List;
import java.util.Map;
import java.util.Set;
import java.util.TreeSet;

/**
 * A second reading of the document, made another way (trees, maps, exceptions, one Java call for each METHOD within
 * another), for FuzzTest to hold the program against. It is slow and knows no rules of LANGUAGE.md.
 */
final class Model {
    private static final Set<String> PLAIN = words("null dup pop swap add sub mul div rem and or xor shl shr ushr neg ints refs iget iput rget rput length ret throw");
    private static final Set<String> LABELLED = words("goto ifeq ifne iflt ifge ifgt ifle cmpeq cmpne cmplt cmpge cmpgt cmple ifnull ifsome same other");
    private static final Set<String> CLASSED = words("new is as");
    private static final Set<String> MEMBERED = words("get put gets puts call virt");
    private static final Set<String> NUMBERED = words("load store source sink");
    private static final Set<String> MASKED = words("clean mark");
    private static final Set<String> CODES = new HashSet<>();
    private static final Set<String> WORDS = words("class field static method virtual int ref none try");
    private static final String[] FIRST = {"Any", "Fault", "NullFault", "BoundsFault", "SizeFault", "DivideFault", "CastFault"};

    static {
        for (Set<String> some : List.of(PLAIN, LABELLED, CLASSED, MEMBERED, NUMBERED, MASKED, words("push inc"))) {
            CODES.addAll(some);
        }
        WORDS.addAll(CODES);
    }

    private static Set<String> words(String all) {
        return new HashSet<>(Arrays.asList(all.split(" ")));
    }

    /** Ends reading where the text is WRONG. */
    private static final class Wrong extends RuntimeException {
        private static final long serialVersionUID = 1;
        final int place;

        Wrong(int place) {
            this.place = place;
        }
    }

    private static final class Limit extends RuntimeException {
        private static final long serialVersionUID = 1;
        final int kind;

        Limit(int kind) {
            this.kind = kind;
        }
    }

    private static final class Thrown extends RuntimeException {
        private static final long serialVersionUID = 1;
        final transient Value value;

        Thrown(Value value) {
            this.value = value;
        }
    }

    private static final class Told {
        final String name;
        final int place;

        Told(String name, int place) {
            this.name = name;
            this.place = place;
        }
    }

    private static final class Type {
        int number;
        Told name;
        Told parentName;
        Type parent;
        final List<Member> members = new ArrayList<>();

        boolean isOf(Type other) {
            return this == other || parent != null && parent.isOf(other);
        }

        Member find(String sort, String wanted) {
            for (Member member : members) {
                if (member.sort.equals(sort) && member.name.name.equals(wanted)) {
                    return member;
                }
            }
            return parent == null ? null : parent.find(sort, wanted);
        }

        List<Member> allFields() {
            List<Member> all = parent == null ? new ArrayList<>() : parent.allFields();
            for (Member member : members) {
                if (member.sort.equals("field")) {
                    all.add(member);
                }
            }
            return all;
        }
    }

    private static final class Member {
        String sort;
        Told name;
        Type owner;
        String kind;
        final List<String> kinds = new ArrayList<>();
        final List<Told> labels = new ArrayList<>();
        final List<Integer> labelsAt = new ArrayList<>();
        final List<Told[]> tries = new ArrayList<>();
        final List<Code> codes = new ArrayList<>();
        int endPlace;
        int deepest;

        int at(String label) {
            for (int i = 0; i < labels.size(); i++) {
                if (labels.get(i).name.equals(label)) {
                    return labelsAt.get(i);
                }
            }
            return -1;
        }

        boolean isVirtual() {
            return sort.equals("virtual");
        }

        List<String> taken() {
            List<String> all = new ArrayList<>(kinds);
            if (isVirtual()) {
                all.add(0, "ref");
            }
            return all;
        }
    }

    private static final class Code {
        String op;
        int place;
        Told first;
        Told second;
        int number;
        int more;
    }

    private static final class Value {
        final int number;
        final Thing thing;
        final int marks;

        Value(int number, Thing thing, int marks) {
            this.number = number;
            this.thing = thing;
            this.marks = marks;
        }

        Value with(int others) {
            return new Value(number, thing, others);
        }
    }

    private static final class Thing {
        int number;
        Type type;
        boolean ofRefs;
        Value[] slots;
        List<String> kinds;
        int lengthMarks;
    }

    private static final class Source {
        final List<Type> types = new ArrayList<>();
        final List<Member> methods = new ArrayList<>();
        final List<Member> statics = new ArrayList<>();

        Source() {
            for (String name : FIRST) {
                Type type = new Type();
                type.number = types.size();
                type.name = new Told(name, -1);
                type.parent = type.number == 0 ? null : types.get(type.number == 1 ? 0 : 1);
                types.add(type);
            }
        }

        Type named(String name) {
            for (Type type : types) {
                if (type.name.name.equals(name)) {
                    return type;
                }
            }
            return null;
        }
    }

    private StringBuilder tape = new StringBuilder();
    private Source source = new Source();
    private int place = -1;
    private int flows;
    private final int[] policies = new int[16];
    private final int[] inputs = new int[16];
    private int[][] arguments = new int[7][2];

    /** The latest RUN. */
    private boolean hasRun;
    private int ended;
    private Value outcome;
    private int done;
    private int cells;
    private List<int[]> events = new ArrayList<>();
    private List<Thing> things = new ArrayList<>();
    private Map<Member, Value> statics = new HashMap<>();

    boolean put(String text) {
        if (tape.length() + text.length() > 4000) {
            return false;
        }
        tape.append(text);
        return true;
    }

    // ---- reading

    private String input;
    private int at;

    int text() {
        input = tape.toString();
        tape = new StringBuilder();
        at = 0;
        place = -1;
        Source read = new Source();
        try {
            readText(read);
        } catch (Wrong wrong) {
            return -1 - wrong.place;
        }
        int[] fault = firstFault(read);
        if (fault == null) {
            for (Member method : read.methods) {
                int found = codeFault(read, method);
                if (found >= 0) {
                    fault = new int[] {found, 5};
                    break;
                }
            }
        }
        if (fault != null) {
            place = fault[0];
            return -5000 - fault[1];
        }
        source = read;
        hasRun = false;
        arguments = new int[7][2];
        return source.methods.size();
    }

    private void skip() {
        while (at < input.length()) {
            char sign = input.charAt(at);
            if (sign == '#') {
                int line = input.indexOf('\n', at);
                at = line < 0 ? input.length() : line;
            } else if ("\t\n\r ".indexOf(sign) >= 0) {
                at++;
            } else {
                return;
            }
        }
    }

    private static boolean letter(char sign) {
        return sign < 128 && Character.isLetter(sign);
    }

    private static boolean digit(char sign) {
        return sign < 128 && Character.isDigit(sign);
    }

    /** The run of letters and digits here, or a single sign, or nothing at the end; does not move on. */
    private String peek() {
        skip();
        if (at >= input.length()) {
            return "";
        }
        int end = at;
        if (letter(input.charAt(at))) {
            while (end < input.length() && (letter(input.charAt(end)) || digit(input.charAt(end)))) {
                end++;
            }
        } else {
            end++;
        }
        return input.substring(at, end);
    }

    private boolean isNext(String wanted) {
        return peek().equals(wanted);
    }

    private void take(String wanted) {
        if (!isNext(wanted)) {
            throw new Wrong(at);
        }
        at += wanted.length();
    }

    private Told takeName() {
        String name = peek();
        if (name.isEmpty() || !letter(name.charAt(0)) || WORDS.contains(name)) {
            throw new Wrong(at);
        }
        if (name.length() > 12) {
            throw new Wrong(at + 12);
        }
        Told told = new Told(name, at);
        at += name.length();
        return told;
    }

    private long takeNumber(long most) {
        skip();
        int start = at;
        if (isNext("0")) {
            take("0");
            return 0;
        }
        while (at < input.length() && digit(input.charAt(at))) {
            at++;
        }
        String digits = input.substring(start, at);
        if (digits.isEmpty()) {
            throw new Wrong(start);
        }
        if (digits.length() > 10 || Long.parseLong(digits) > most) {
            throw new Wrong(start);
        }
        return Long.parseLong(digits);
    }

    private int takeSigned(long most, long mostBelow) {
        if (isNext("-")) {
            take("-");
            return (int) -takeNumber(mostBelow);
        }
        return (int) takeNumber(most);
    }

    private String takeOneOf(String... wanted) {
        String next = peek();
        if (!Arrays.asList(wanted).contains(next)) {
            throw new Wrong(at);
        }
        at += next.length();
        return next;
    }

    private void readText(Source read) {
        do {
            if (!isNext("class") || read.types.size() == 19) {
                throw new Wrong(at);
            }
            take("class");
            Type type = new Type();
            type.number = read.types.size();
            type.name = takeName();
            if (isNext(":")) {
                take(":");
                type.parentName = takeName();
            }
            read.types.add(type);
            take("{");
            while (!isNext("}")) {
                readMember(read, type);
            }
            take("}");
        } while (!peek().isEmpty());
    }

    private void readMember(Source read, Type type) {
        String next = peek();
        int start = at;
        Member member = new Member();
        member.sort = takeOneOf("field", "static", "method", "virtual");
        member.owner = type;
        boolean isMethod = next.equals("method") || next.equals("virtual");
        long fields = type.members.stream().filter(m -> m.sort.equals("field")).count();
        if (next.equals("field") && fields == 8 || next.equals("static") && read.statics.size() == 16
                || isMethod && read.methods.size() == 24) {
            throw new Wrong(start);
        }
        member.name = takeName();
        type.members.add(member);
        if (!isMethod) {
            member.kind = takeOneOf("int", "ref");
            take(";");
            if (next.equals("static")) {
                read.statics.add(member);
            }
            return;
        }
        read.methods.add(member);
        take("(");
        if (!isNext(")")) {
            member.kinds.add(takeOneOf("int", "ref"));
            while (isNext(",") && member.kinds.size() < 6) {
                take(",");
                member.kinds.add(takeOneOf("int", "ref"));
            }
        }
        take(")");
        member.kind = takeOneOf("int", "ref", "none");
        take("{");
        while (!isNext("}")) {
            readItem(member);
        }
        member.endPlace = at;
        take("}");
    }

    private void readItem(Member method) {
        String next = peek();
        if (next.equals("try")) {
            if (method.tries.size() == 8) {
                throw new Wrong(at);
            }
            take("try");
            method.tries.add(new Told[] {takeName(), takeName(), takeName(), takeName()});
            take(";");
        } else if (CODES.contains(next)) {
            if (method.codes.size() == 100) {
                throw new Wrong(at);
            }
            readCode(method, next);
        } else {
            method.labels.add(takeName());
            method.labelsAt.add(method.codes.size());
            take(":");
        }
    }

    private void readCode(Member method, String op) {
        Code code = new Code();
        code.op = op;
        code.place = at;
        take(op);
        if (op.equals("push")) {
            code.number = takeSigned(2147483647L, 2147483648L);
        } else if (op.equals("inc")) {
            code.number = (int) takeNumber(15);
            code.more = takeSigned(32767, 32767);
        } else if (NUMBERED.contains(op)) {
            code.number = (int) takeNumber(15);
        } else if (MASKED.contains(op)) {
            code.number = (int) takeNumber(65535);
        } else if (!PLAIN.contains(op)) {
            code.first = takeName();
            code.second = MEMBERED.contains(op) ? takeName() : null;
        }
        take(";");
        method.codes.add(code);
    }

    // ---- FAULTS 1 to 4

    private int[] firstFault(Source read) {
        TreeSet<Integer> found = new TreeSet<>();
        for (int c = 7; c < read.types.size(); c++) {
            Type type = read.types.get(c);
            type.parent = read.types.get(0);
            for (int d = c - 1; d >= 0; d--) {
                Type above = read.types.get(d);
                if (above.name.name.equals(type.name.name)) {
                    note(found, type.name.place, 1);
                }
                if (type.parentName != null && above.name.name.equals(type.parentName.name)) {
                    type.parent = above;
                }
            }
            if (type.parentName != null && !type.parent.name.name.equals(type.parentName.name)) {
                note(found, type.parentName.place, 2);
            }
        }
        for (Type type : read.types) {
            Set<String> told = new HashSet<>();
            for (Member member : type.members) {
                if (!told.add(member.name.name)) {
                    note(found, member.name.place, 1);
                }
                if (member.isVirtual()) {
                    Member above = type.parent.find("virtual", member.name.name);
                    if (above != null && !(above.kinds.equals(member.kinds) && above.kind.equals(member.kind))) {
                        note(found, member.name.place, 3);
                    }
                }
                methodFaults(read, member, found);
            }
        }
        return found.isEmpty() ? null : new int[] {found.first() / 10, found.first() % 10};
    }

    private static void note(Set<Integer> found, int place, int kind) {
        found.add(place * 10 + kind);
    }

    private void methodFaults(Source read, Member method, Set<Integer> found) {
        Set<String> labels = new HashSet<>();
        for (Told label : method.labels) {
            if (!labels.add(label.name)) {
                note(found, label.place, 1);
            }
        }
        for (Told[] told : method.tries) {
            boolean all = true;
            for (int i = 0; i < 3; i++) {
                if (!labels.contains(told[i].name)) {
                    note(found, told[i].place, 2);
                    all = false;
                }
            }
            if (all && method.at(told[1].name) <= method.at(told[0].name)) {
                note(found, told[0].place, 4);
            }
            if (read.named(told[3].name) == null) {
                note(found, told[3].place, 2);
            }
        }
        for (Code code : method.codes) {
            if (LABELLED.contains(code.op)) {
                if (!labels.contains(code.first.name)) {
                    note(found, code.first.place, 2);
                }
            } else if (code.first != null) {
                Type type = read.named(code.first.name);
                if (type == null) {
                    note(found, code.first.place, 2);
                } else if (code.second != null && member(read, code) == null) {
                    note(found, code.second.place, 2);
                }
            }
        }
    }

    private static Member member(Source read, Code code) {
        String sort = code.op.equals("call") ? "method" : code.op.equals("virt") ? "virtual"
            : code.op.endsWith("s") ? "static" : "field";
        return read.named(code.first.name).find(sort, code.second.name);
    }

    // ---- FAULT 5

    /** A state: the STACK as a text of i and r, and what each local may be as texts of i, r, u in order. */
    private static final class State {
        String stack = "";
        String[] locals = new String[16];

        State copy() {
            State other = new State();
            other.stack = stack;
            other.locals = locals.clone();
            return other;
        }
    }

    private static String join(String one, String other) {
        StringBuilder all = new StringBuilder();
        for (String kind : List.of("i", "r", "u")) {
            if (one.contains(kind) || other.contains(kind)) {
                all.append(kind);
            }
        }
        return all.toString();
    }

    private static String sign(String kind) {
        return kind.equals("none") ? "" : kind.substring(0, 1);
    }

    private int codeFault(Source read, Member method) {
        int size = method.codes.size();
        State[] states = new State[size];
        TreeSet<Integer> fresh = new TreeSet<>();
        State first = new State();
        Arrays.fill(first.locals, "u");
        List<String> taken = method.taken();
        for (int i = 0; i < taken.size(); i++) {
            first.locals[i] = sign(taken.get(i));
        }
        int fault = come(method, states, fresh, 0, first);
        while (fault < 0 && !fresh.isEmpty()) {
            int i = fresh.pollFirst();
            Code code = method.codes.get(i);
            State ahead = states[i].copy();
            State behind = states[i].copy();
            if (!act(read, method, code, behind) || behind.stack.length() > 16) {
                return code.place;
            }
            List<Integer> targets = new ArrayList<>();
            List<State> with = new ArrayList<>();
            if (!words("goto ret throw").contains(code.op)) {
                targets.add(i + 1);
                with.add(behind);
            }
            if (LABELLED.contains(code.op)) {
                targets.add(method.at(code.first.name));
                with.add(behind);
            }
            State caught = ahead.copy();
            caught.stack = "r";
            for (Told[] told : method.tries) {
                if (method.at(told[0].name) <= i && i < method.at(told[1].name)) {
                    targets.add(method.at(told[2].name));
                    with.add(caught);
                }
            }
            for (int t = 0; t < targets.size() && fault < 0; t++) {
                fault = come(method, states, fresh, targets.get(t), with.get(t));
            }
        }
        for (State state : states) {
            method.deepest = Math.max(method.deepest, state == null ? 0 : state.stack.length());
        }
        return fault;
    }

    private static int come(Member method, State[] states, Set<Integer> fresh, int i, State with) {
        if (i == states.length) {
            return method.endPlace;
        }
        if (states[i] == null) {
            states[i] = with.copy();
            fresh.add(i);
            return -1;
        }
        if (!states[i].stack.equals(with.stack)) {
            return method.codes.get(i).place;
        }
        for (int k = 0; k < 16; k++) {
            String both = join(states[i].locals[k], with.locals[k]);
            if (!both.equals(states[i].locals[k])) {
                states[i].locals[k] = both;
                fresh.add(i);
            }
        }
        return -1;
    }

    private boolean swap(State state, String takes, String gives) {
        if (!state.stack.endsWith(takes)) {
            return false;
        }
        state.stack = state.stack.substring(0, state.stack.length() - takes.length()) + gives;
        return true;
    }

    private boolean act(Source read, Member method, Code code, State state) {
        int size = state.stack.length();
        String top = size == 0 ? "" : state.stack.substring(size - 1);
        Member member = MEMBERED.contains(code.op) ? member(read, code) : null;
        switch (code.op) {
            case "push": case "source": return swap(state, "", "i");
            case "null": case "new": return swap(state, "", "r");
            case "load": return state.locals[code.number].matches("[ir]") && swap(state, "", state.locals[code.number]);
            case "store": state.locals[code.number] = top; return size > 0 && swap(state, top, "");
            case "inc": return state.locals[code.number].equals("i");
            case "dup": return size > 0 && swap(state, "", top);
            case "pop": return size > 0 && swap(state, top, "");
            case "swap": return size > 1 && swap(state, state.stack.substring(size - 2), top + state.stack.charAt(size - 2));
            case "neg": case "clean": case "mark": return swap(state, "i", "i");
            case "goto": return true;
            case "ifeq": case "ifne": case "iflt": case "ifge": case "ifgt": case "ifle": case "sink": return swap(state, "i", "");
            case "cmpeq": case "cmpne": case "cmplt": case "cmpge": case "cmpgt": case "cmple": return swap(state, "ii", "");
            case "ifnull": case "ifsome": case "throw": return swap(state, "r", "");
            case "same": case "other": return swap(state, "rr", "");
            case "get": return swap(state, "r", sign(member.kind));
            case "put": return swap(state, "r" + sign(member.kind), "");
            case "gets": return swap(state, "", sign(member.kind));
            case "puts": return swap(state, sign(member.kind), "");
            case "ints": case "refs": return swap(state, "i", "r");
            case "iget": return swap(state, "ri", "i");
            case "rget": return swap(state, "ri", "r");
            case "iput": return swap(state, "rii", "");
            case "rput": return swap(state, "rir", "");
            case "length": case "is": return swap(state, "r", "i");
            case "as": return swap(state, "r", "r");
            case "ret": return state.stack.endsWith(sign(method.kind));
            case "call": case "virt": {
                StringBuilder takes = new StringBuilder();
                for (String kind : member.taken()) {
                    takes.append(sign(kind));
                }
                return swap(state, takes.toString(), sign(member.kind));
            }
            default: return swap(state, "ii", "i");
        }
    }

    // ---- RUNS

    int run(int m) {
        if (m < 0 || m >= source.methods.size()) {
            return -10;
        }
        hasRun = true;
        done = 0;
        cells = 0;
        events = new ArrayList<>();
        things = new ArrayList<>();
        statics = new HashMap<>();
        for (Member member : source.statics) {
            statics.put(member, new Value(0, null, 0));
        }
        Member method = source.methods.get(m);
        List<Value> given = new ArrayList<>();
        for (String kind : method.taken()) {
            int[] argument = arguments[given.size()];
            given.add(new Value(kind.equals("ref") ? 0 : argument[0], null, argument[1]));
        }
        outcome = null;
        try {
            outcome = call(method, given, 1);
            ended = method.kind.equals("none") ? 0 : method.kind.equals("int") ? 1 : 2;
        } catch (Thrown thrown) {
            outcome = thrown.value;
            ended = 3;
        } catch (Limit limit) {
            ended = limit.kind;
        }
        return ended;
    }

    private Value call(Member method, List<Value> given, int level) {
        if (level > 24) {
            throw new Limit(5);
        }
        if (level > 1) {
            done++;
        }
        Value[] locals = new Value[16];
        for (int i = 0; i < given.size(); i++) {
            locals[i] = given.get(i);
        }
        List<Value> stack = new ArrayList<>();
        int pc = 0;
        while (true) {
            Code code = method.codes.get(pc);
            if (done == 20000) {
                throw new Limit(4);
            }
            try {
                if (code.op.equals("ret")) {
                    done++;
                    return method.kind.equals("none") ? null : pop(stack);
                }
                // A call counts when its METHOD begins, or when it throws ahead of that.
                int before = done;
                int next = doCode(code, locals, stack, level);
                done = code.op.equals("call") || code.op.equals("virt") ? done : before + 1;
                pc = next >= 0 ? method.at(code.first.name) : pc + 1;
            } catch (Thrown thrown) {
                Told[] caught = null;
                for (Told[] told : method.tries) {
                    Type type = thrown.value.thing.type;
                    boolean fits = source.named(told[3].name).number == 0 || type != null && type.isOf(source.named(told[3].name));
                    if (caught == null && method.at(told[0].name) <= pc && pc < method.at(told[1].name) && fits) {
                        caught = told;
                    }
                }
                if (caught == null) {
                    throw thrown;
                }
                pc = method.at(caught[2].name);
                stack.clear();
                stack.add(thrown.value);
            }
        }
    }

    private static Value pop(List<Value> stack) {
        return stack.remove(stack.size() - 1);
    }

    private static void push(List<Value> stack, int number, int marks) {
        stack.add(new Value(number, null, marks));
    }

    private Thing make(Type type, boolean ofRefs, int length, List<String> kinds) {
        if (cells + 1L + length > 3000) {
            throw new Limit(6);
        }
        cells += 1 + length;
        Thing thing = new Thing();
        thing.number = things.size();
        thing.type = type;
        thing.ofRefs = ofRefs;
        thing.kinds = kinds;
        thing.slots = new Value[length];
        Arrays.fill(thing.slots, new Value(0, null, 0));
        things.add(thing);
        return thing;
    }

    private Thrown fault(int type, int marks) {
        Thing thing = make(source.types.get(type), false, 0, new ArrayList<>());
        done++;
        return new Thrown(new Value(0, thing, marks));
    }

    private void needObject(Value ref, Code code, int marks) {
        if (ref.thing == null) {
            throw fault(2, marks);
        }
        if (ref.thing.type == null || !ref.thing.type.isOf(source.named(code.first.name))) {
            throw fault(6, marks);
        }
    }

    private void needElement(Value ref, Value index, boolean ofRefs, int marks) {
        if (ref.thing == null) {
            throw fault(2, marks);
        }
        if (ref.thing.type != null || ref.thing.ofRefs != ofRefs) {
            throw fault(6, marks);
        }
        if (index.number < 0 || index.number >= ref.thing.slots.length) {
            throw fault(3, marks);
        }
    }

    private int flow(int bit, int marks) {
        return (flows & bit) == 0 ? 0 : marks;
    }

    /** 0 or above if the LABEL is gone to. */
    private int doCode(Code code, Value[] locals, List<Value> stack, int level) {
        switch (code.op) {
            case "push": push(stack, code.number, 0); return -1;
            case "null": push(stack, 0, 0); return -1;
            case "load": stack.add(locals[code.number]); return -1;
            case "store": locals[code.number] = pop(stack); return -1;
            case "inc": locals[code.number] = new Value(locals[code.number].number + code.more, null, locals[code.number].marks); return -1;
            case "dup": stack.add(stack.get(stack.size() - 1)); return -1;
            case "pop": pop(stack); return -1;
            case "swap": { Value top = pop(stack); stack.add(stack.size() - 1, top); return -1; }
            case "neg": { Value v = pop(stack); push(stack, -v.number, v.marks); return -1; }
            case "source": push(stack, inputs[code.number], 1 << code.number); return -1;
            case "clean": stack.add(stack.get(stack.size() - 1).with(stack.get(stack.size() - 1).marks & ~code.number)); stack.remove(stack.size() - 2); return -1;
            case "mark": stack.add(stack.get(stack.size() - 1).with(stack.get(stack.size() - 1).marks | code.number)); stack.remove(stack.size() - 2); return -1;
            case "sink": {
                Value v = pop(stack);
                if (events.size() == 500) {
                    throw new Limit(7);
                }
                events.add(new int[] {code.number, v.number, v.marks, (policies[code.number] & v.marks) == 0 ? 0 : 1});
                return -1;
            }
            case "gets": stack.add(statics.get(member(source, code))); return -1;
            case "puts": statics.put(member(source, code), pop(stack)); return -1;
            case "call": case "virt": return invoke(code, stack, level);
            default: return LABELLED.contains(code.op) ? branch(code, stack) : doThing(code, stack);
        }
    }

    private int invoke(Code code, List<Value> stack, int level) {
        Member told = member(source, code);
        List<Value> given = new ArrayList<>();
        int marks = 0;
        for (int i = 0; i < told.taken().size(); i++) {
            Value value = pop(stack);
            given.add(0, value);
            marks |= value.marks;
        }
        if (code.op.equals("virt")) {
            needObject(given.get(0), code, marks);
            told = given.get(0).thing.type.find("virtual", told.name.name);
        }
        Value answer = call(told, given, level + 1);
        if (answer != null) {
            stack.add(answer);
        }
        return -1;
    }

    private int branch(Code code, List<Value> stack) {
        boolean goes;
        if (code.op.equals("goto")) {
            goes = true;
        } else if (code.op.equals("ifnull") || code.op.equals("ifsome")) {
            goes = (pop(stack).thing == null) == code.op.equals("ifnull");
        } else {
            Value right = code.op.startsWith("if") ? new Value(0, null, 0) : pop(stack);
            Value left = pop(stack);
            int order = Integer.compare(left.number, right.number);
            switch (code.op.substring(code.op.length() - 2)) {
                case "eq": goes = order == 0; break;
                case "ne": goes = order != 0; break;
                case "lt": goes = order < 0; break;
                case "ge": goes = order >= 0; break;
                case "gt": goes = order > 0; break;
                case "le": goes = order <= 0; break;
                default: goes = (left.thing == right.thing) == code.op.equals("same"); break;
            }
        }
        return goes ? 0 : -1;
    }

    private int doThing(Code code, List<Value> stack) {
        switch (code.op) {
            case "new": {
                Type type = source.named(code.first.name);
                List<String> kinds = new ArrayList<>();
                for (Member field : type.allFields()) {
                    kinds.add(field.kind);
                }
                stack.add(new Value(0, make(type, false, kinds.size(), kinds), 0));
                return -1;
            }
            case "get": {
                Value ref = pop(stack);
                needObject(ref, code, ref.marks);
                Value held = ref.thing.slots[ref.thing.type.allFields().indexOf(member(source, code))];
                stack.add(held.with(held.marks | flow(2, ref.marks)));
                return -1;
            }
            case "put": {
                Value value = pop(stack);
                Value ref = pop(stack);
                needObject(ref, code, ref.marks | value.marks);
                ref.thing.slots[ref.thing.type.allFields().indexOf(member(source, code))] = value.with(value.marks | flow(4, ref.marks));
                return -1;
            }
            case "ints": case "refs": {
                Value length = pop(stack);
                if (length.number < 0) {
                    throw fault(4, length.marks);
                }
                Thing thing = make(null, code.op.equals("refs"), length.number, null);
                thing.lengthMarks = length.marks;
                stack.add(new Value(0, thing, 0));
                return -1;
            }
            case "iget": case "rget": {
                Value index = pop(stack);
                Value ref = pop(stack);
                needElement(ref, index, code.op.equals("rget"), ref.marks | index.marks);
                Value held = ref.thing.slots[index.number];
                stack.add(held.with(held.marks | flow(1, index.marks) | flow(2, ref.marks)));
                return -1;
            }
            case "iput": case "rput": {
                Value value = pop(stack);
                Value index = pop(stack);
                Value ref = pop(stack);
                needElement(ref, index, code.op.equals("rput"), ref.marks | index.marks | value.marks);
                ref.thing.slots[index.number] = value.with(value.marks | flow(1, index.marks) | flow(4, ref.marks));
                return -1;
            }
            case "length": {
                Value ref = pop(stack);
                if (ref.thing == null || ref.thing.type != null) {
                    throw fault(ref.thing == null ? 2 : 6, ref.marks);
                }
                push(stack, ref.thing.slots.length, ref.thing.lengthMarks | flow(2, ref.marks));
                return -1;
            }
            case "throw": {
                Value ref = pop(stack);
                if (ref.thing == null) {
                    throw fault(2, ref.marks);
                }
                done++;
                throw new Thrown(ref);
            }
            case "is": case "as": {
                Value ref = pop(stack);
                Type type = source.named(code.first.name);
                boolean fits = ref.thing != null && (type.number == 0 || ref.thing.type != null && ref.thing.type.isOf(type));
                if (code.op.equals("is")) {
                    push(stack, fits ? 1 : 0, ref.marks);
                } else if (fits || ref.thing == null) {
                    stack.add(ref);
                } else {
                    throw fault(6, ref.marks);
                }
                return -1;
            }
            default: {
                Value right = pop(stack);
                Value left = pop(stack);
                int marks = left.marks | right.marks;
                if (right.number == 0 && (code.op.equals("div") || code.op.equals("rem"))) {
                    throw fault(5, marks);
                }
                push(stack, (int) count(code.op, left.number, right.number), marks);
                return -1;
            }
        }
    }

    private static long count(String op, long left, long right) {
        switch (op) {
            case "add": return left + right;
            case "sub": return left - right;
            case "mul": return left * right;
            case "div": return left / right;
            case "rem": return left % right;
            case "and": return left & right;
            case "or": return left | right;
            case "xor": return left ^ right;
            case "shl": return left << Math.floorMod(right, 32L);
            case "shr": return left >> Math.floorMod(right, 32L);
            default: return (left & 0xFFFFFFFFL) >>> Math.floorMod(right, 32L);
        }
    }

    // ---- what is asked and set

    int place() {
        return place;
    }

    int flows(int v) {
        int before = flows;
        flows = Math.floorMod(v, 8);
        return before;
    }

    int policy(int k, int v) {
        if (k < 0 || k > 15) {
            return -15;
        }
        int before = policies[k];
        policies[k] = Math.floorMod(v, 65536);
        return before;
    }

    int input(int k, int v) {
        if (k < 0 || k > 15) {
            return -1;
        }
        int before = inputs[k];
        inputs[k] = v;
        return before;
    }

    int argument(int i, int v, int m) {
        if (i < 0 || i > 6) {
            return -15;
        }
        arguments[i] = new int[] {v, Math.floorMod(m, 65536)};
        return 1;
    }

    int result(int what) {
        if (!hasRun || what < 0 || what > 7) {
            return -1;
        }
        boolean isRef = ended == 2 || ended == 3;
        long alarms = events.stream().filter(event -> event[3] == 1).count();
        int first = outcome == null ? 0 : isRef ? number(outcome) : outcome.number;
        return new int[] {ended, first, outcome == null ? 0 : outcome.marks, done, events.size(), (int) alarms, things.size(), cells}[what];
    }

    private static int number(Value ref) {
        return ref.thing == null ? -1 : ref.thing.number;
    }

    int event(int i, int what) {
        return !hasRun || i < 0 || i >= events.size() || what < 0 || what > 3 ? -1 : events.get(i)[what];
    }

    int object(int i, int what) {
        if (!hasRun || i < 0 || i >= things.size() || what < 0 || what > 2) {
            return -1;
        }
        Thing thing = things.get(i);
        int type = thing.type != null ? thing.type.number : thing.ofRefs ? -3 : -2;
        return new int[] {type, thing.slots.length, thing.lengthMarks}[what];
    }

    int slot(int i, int k, int what) {
        if (!hasRun || i < 0 || i >= things.size() || k < 0 || k >= things.get(i).slots.length || what < 0 || what > 1) {
            return -1;
        }
        Thing thing = things.get(i);
        boolean isRef = thing.type == null ? thing.ofRefs : thing.kinds.get(k).equals("ref");
        Value value = thing.slots[k];
        return what == 1 ? value.marks : isRef ? number(value) : value.number;
    }

    int stat(int k, int what) {
        if (!hasRun || k < 0 || k >= source.statics.size() || what < 0 || what > 1) {
            return -1;
        }
        Value value = statics.get(source.statics.get(k));
        return what == 1 ? value.marks : source.statics.get(k).kind.equals("ref") ? number(value) : value.number;
    }

    int type(int c, int what) {
        if (c < 0 || c >= source.types.size() || what < 0 || what > 2) {
            return -1;
        }
        Type type = source.types.get(c);
        long methods = source.methods.stream().filter(method -> method.owner == type).count();
        return new int[] {type.parent == null ? -1 : type.parent.number, type.allFields().size(), (int) methods}[what];
    }

    int method(int m, int what) {
        if (m < 0 || m >= source.methods.size() || what < 0 || what > 5) {
            return -1;
        }
        Member method = source.methods.get(m);
        int result = List.of("none", "int", "ref").indexOf(method.kind);
        return new int[] {method.owner.number, method.kinds.size(), result, method.isVirtual() ? 1 : 0, method.codes.size(), method.deepest}[what];
    }

    int count(int what) {
        return what < 0 || what > 4 ? -1
            : new int[] {source.types.size(), source.methods.size(), source.statics.size(), flows, tape.length()}[what];
    }
}
