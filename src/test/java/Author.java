import java.util.ArrayList;
import java.util.List;
import java.util.Random;

/** Writes texts by chance: most are right, or nearly so, and their RUNS do something. */
final class Author {
    private static final String[] BINARY = {"add", "sub", "mul", "div", "rem", "and", "or", "xor", "shl", "shr", "ushr"};
    private static final String[] AGAINST_0 = {"ifeq", "ifne", "iflt", "ifge", "ifgt", "ifle"};
    private static final String[] OF_TWO = {"cmpeq", "cmpne", "cmplt", "cmpge", "cmpgt", "cmple"};
    private static final String[] FIRST = {"Any", "Fault", "NullFault", "BoundsFault", "SizeFault", "DivideFault", "CastFault"};
    private static final String[] TOKENS = ("class field static method virtual int ref none try { } ( ) ; : , - 0 1 7 15 16 65535 65536 32767 32768 "
        + "2147483647 2147483648 2147483649 00 01 032767 032768 A B C a b f g v Any Fault abcdefghijkl abcdefghijklm # ! push null load store inc dup pop "
        + "swap add neg goto ifeq cmplt ifnull same new get put gets puts ints refs iget iput rget rput length call virt ret throw is as "
        + "source sink clean mark").split(" ");

    private static final class Member {
        String sort;
        String name;
        String kind;
        int owner;
        List<String> kinds = new ArrayList<>();
    }

    private final Random chance;
    private final List<String> names = new ArrayList<>();
    private final List<Integer> parents = new ArrayList<>();
    private final List<Member> members = new ArrayList<>();
    private StringBuilder out;
    private String[] locals;
    private Member current;
    private int labels;
    private int placed;
    private int codes;
    private int[] labelsAt;

    Author(long seed) {
        chance = new Random(seed);
    }

    private int upTo(int n) {
        return chance.nextInt(n);
    }

    private boolean oneIn(int n) {
        return chance.nextInt(n) == 0;
    }

    private String any(String... some) {
        return some[upTo(some.length)];
    }

    String write() {
        names.clear();
        parents.clear();
        members.clear();
        int classes = 1 + upTo(4);
        for (int c = 0; c < classes; c++) {
            names.add("" + (char) ('A' + c));
            parents.add(c > 0 && !oneIn(3) ? upTo(c) : -1);
            plan(c);
        }
        out = new StringBuilder();
        for (int c = 0; c < classes; c++) {
            String parent = parents.get(c) >= 0 ? " : " + names.get(parents.get(c)) : oneIn(4) ? " : " + any("Fault", "Any", "NullFault") : "";
            out.append("class ").append(names.get(c)).append(parent).append(" {\n");
            for (Member member : members) {
                if (member.owner == c) {
                    writeMember(member);
                }
            }
            out.append("}\n");
        }
        return out.toString();
    }

    private void plan(int c) {
        int wanted = 1 + upTo(4);
        for (int i = 0; i < wanted; i++) {
            Member member = new Member();
            member.owner = c;
            member.sort = any("field", "field", "static", "method", "method", "virtual");
            member.name = member.sort.substring(0, 1) + (oneIn(30) ? 0 : members.size());
            member.kind = any("int", "ref");
            if (member.sort.equals("method") || member.sort.equals("virtual")) {
                int kinds = oneIn(8) ? 6 : upTo(3);
                for (int k = 0; k < kinds; k++) {
                    member.kinds.add(any("int", "int", "ref"));
                }
                member.kind = any("int", "ref", "none");
                overrideAnother(member);
            }
            members.add(member);
        }
        if (members.stream().noneMatch(m -> m.sort.equals("method"))) {
            Member member = new Member();
            member.owner = c;
            member.sort = "method";
            member.name = "main" + c;
            member.kind = any("int", "ref", "none");
            members.add(member);
        }
    }

    private void overrideAnother(Member member) {
        if (!member.sort.equals("virtual")) {
            return;
        }
        for (Member other : members) {
            if (other.sort.equals("virtual") && other.owner != member.owner && oneIn(2)) {
                member.name = other.name;
                if (!oneIn(8)) {
                    member.kinds = other.kinds;
                    member.kind = other.kind;
                }
                return;
            }
        }
    }

    private void writeMember(Member member) {
        out.append("  ").append(member.sort).append(' ').append(member.name);
        if (member.sort.equals("field") || member.sort.equals("static")) {
            out.append(' ').append(member.kind).append(";\n");
            return;
        }
        out.append('(').append(String.join(", ", member.kinds)).append(") ").append(member.kind).append(" {\n    ");
        current = member;
        writeItems();
        out.append("\n  }\n");
    }

    private void code(String text) {
        codes += text.split(";").length;
        out.append(text).append(oneIn(12) ? ";\n    " : "; ");
    }

    private void writeItems() {
        locals = new String[16];
        int first = 0;
        if (current.sort.equals("virtual")) {
            locals[first++] = "ref";
        }
        for (String kind : current.kinds) {
            locals[first++] = kind;
        }
        for (int k = first; k < Math.min(16, first + 4); k++) {
            locals[k] = k == first ? "int" : any("int", "ref");
            make(locals[k], 1);
            code("store " + k);
        }
        labels = 1 + upTo(5);
        labelsAt = new int[labels + 1];
        placed = 0;
        int statements = 1 + upTo(8);
        for (int i = 0; i < statements; i++) {
            if (placed < labels && oneIn(2)) {
                label();
            }
            statement();
        }
        while (placed < labels) {
            label();
        }
        leave();
        labelsAt[labels] = codes;
        int tries = oneIn(2) ? 0 : 1 + upTo(3);
        for (int t = 0; t < tries; t++) {
            out.append("h").append(t).append(": ");
            if (oneIn(3)) {
                code("dup; is " + any(FIRST) + "; sink " + upTo(16));
            }
            code("pop");
            if (oneIn(3)) {
                statement();
            }
            leave();
        }
        for (int t = 0; t < tries; t++) {
            int from = upTo(labels);
            int to = upTo(labels + 1);
            if (labelsAt[to] <= labelsAt[from] && !oneIn(30)) {
                continue;
            }
            String behind = to == labels ? "h0" : "l" + to;
            code("try l" + from + " " + behind + " h" + t + " " + (oneIn(3) ? any(FIRST) : oneIn(2) ? "Any" : any(names.toArray(new String[0]))));
        }
    }

    private void label() {
        labelsAt[placed] = codes;
        out.append('l').append(placed++).append(": ");
    }

    private void leave() {
        if (oneIn(12)) {
            make("ref", 1);
            code("throw");
            return;
        }
        if (!current.kind.equals("none")) {
            make(current.kind, 2);
        }
        code("ret");
    }

    private void statement() {
        switch (upTo(14)) {
            case 0: case 1: {
                int k = upTo(16);
                if (locals[k] == null) {
                    break;
                }
                make(locals[k], 3);
                code("store " + k);
                break;
            }
            case 2:
                for (int k = 0; k < 16; k++) {
                    if ("int".equals(locals[k])) {
                        code("inc " + k + (k == 0 && oneIn(4) ? "" : any(" ", " - ", "-")) + upTo(5));
                        break;
                    }
                }
                break;
            case 3: case 4: {
                Member field = some("field");
                if (field != null) {
                    code(oneIn(3) ? "new " + names.get(field.owner) : "null; pop; new " + below(field.owner));
                    keep();
                    make(field.kind, 2);
                    code("put " + names.get(field.owner) + " " + field.name);
                }
                break;
            }
            case 5: {
                Member field = some("static");
                if (field != null) {
                    make(field.kind, 2);
                    code("puts " + below(field.owner) + " " + field.name);
                }
                break;
            }
            case 6:
                array("ints");
                make("int", 1);
                make("int", 1);
                code("iput");
                break;
            case 7:
                array("refs");
                make("int", 1);
                make("ref", 1);
                code("rput");
                break;
            case 8: case 9:
                make("int", 3);
                code("sink " + upTo(16));
                break;
            case 10:
                branch();
                break;
            case 11:
                invoke("none");
                break;
            case 12:
                make("int", 2);
                make("ref", 2);
                code(oneIn(2) ? "swap; sink 3; pop" : "swap; pop; pop");
                break;
            default:
                make(any("int", "ref"), 3);
                code("pop");
                break;
        }
    }

    /** Leaves the ref on top, and now and then keeps it in a local or a static, so that others meet it. */
    private void keep() {
        int k = upTo(16);
        if ("ref".equals(locals[k])) {
            code("dup; store " + k);
        }
    }

    private void branch() {
        String label = "l" + (oneIn(5) ? upTo(labels) : Math.min(labels - 1, placed + upTo(labels)));
        switch (upTo(5)) {
            case 0: make("int", 2); code(any(AGAINST_0) + " " + label); break;
            case 1: make("int", 1); make("int", 1); code(any(OF_TWO) + " " + label); break;
            case 2: make("ref", 2); code(any("ifnull ", "ifsome ") + label); break;
            case 3: make("ref", 1); make("ref", 1); code(any("same ", "other ") + label); break;
            default: if (oneIn(3)) { code("goto " + label); } break;
        }
    }

    private void array(String sort) {
        if (oneIn(4)) {
            make("ref", 1);
        } else {
            code((oneIn(9) ? "push - 1" : oneIn(9) ? "source 3" : "push " + upTo(6)) + "; " + sort);
            keep();
        }
    }

    private Member some(String sort) {
        Member found = null;
        int seen = 0;
        for (Member member : members) {
            if (member.sort.equals(sort) && upTo(++seen) == 0) {
                found = member;
            }
        }
        return found;
    }

    /** The class or one that has it above; now and then any other. */
    private String below(int owner) {
        for (int c = names.size() - 1; c > owner; c--) {
            if (parents.get(c) == owner && oneIn(2)) {
                return names.get(c);
            }
        }
        return names.get(oneIn(40) ? upTo(names.size()) : owner);
    }

    private boolean invoke(String kind) {
        Member method = some(any("method", "virtual"));
        if (method == null || !method.kind.equals(kind)) {
            return false;
        }
        boolean isVirtual = method.sort.equals("virtual");
        if (isVirtual) {
            if (oneIn(5)) {
                make("ref", 1);
            } else {
                code("new " + below(method.owner));
            }
        }
        for (String wanted : method.kinds) {
            make(wanted, 1);
        }
        code((isVirtual ? "virt " : "call ") + names.get(method.owner) + " " + method.name);
        return true;
    }

    private void make(String kind, int depth) {
        if (kind.equals("int")) {
            makeInt(depth);
        } else {
            makeRef(depth);
        }
    }

    private void makeInt(int depth) {
        int k = upTo(16);
        if (depth <= 0 || oneIn(4)) {
            code("int".equals(locals[k]) ? "load " + k : oneIn(3) ? "push " + any("0", "1", "2", "3", "31", "2147483647", "- 1", "- 2147483648") : "source " + upTo(16));
            return;
        }
        switch (upTo(10)) {
            case 0: case 1: makeInt(depth - 1); makeInt(depth - 1); code(any(BINARY)); break;
            case 2: makeInt(depth - 1); code("neg"); break;
            case 3: makeInt(depth - 1); code(any("clean ", "mark ") + upTo(65536)); break;
            case 4: makeRef(depth - 1); code("is " + (oneIn(2) ? any(FIRST) : any(names.toArray(new String[0])))); break;
            case 5: array(any("ints", "refs")); code("length"); break;
            case 6: array("ints"); makeInt(depth - 1); code("iget"); break;
            case 7: readField("field", "int"); break;
            case 8: readField("static", "int"); break;
            default: if (!invoke("int")) { code("source " + upTo(16)); } break;
        }
    }

    private void readField(String sort, String kind) {
        Member field = some(sort);
        if (field == null || !field.kind.equals(kind)) {
            code(kind.equals("int") ? "push 5" : "null");
        } else if (sort.equals("static")) {
            code("gets " + below(field.owner) + " " + field.name);
        } else {
            if (oneIn(3)) {
                makeRef(1);
            } else {
                code("new " + names.get(field.owner));
            }
            code("get " + names.get(field.owner) + " " + field.name);
        }
    }

    private void makeRef(int depth) {
        int k = upTo(16);
        if (depth <= 0 || oneIn(3)) {
            code("ref".equals(locals[k]) ? "load " + k : oneIn(4) ? "null" : "new " + (oneIn(3) ? any(FIRST) : any(names.toArray(new String[0]))));
            return;
        }
        switch (upTo(7)) {
            case 0: array("refs"); makeInt(depth - 1); code("rget"); break;
            case 1: makeRef(depth - 1); code("as " + (oneIn(2) ? "Any" : any(names.toArray(new String[0])))); break;
            case 2: array(any("ints", "refs")); break;
            case 3: readField("field", "ref"); break;
            case 4: readField("static", "ref"); break;
            case 5: code("new " + any(names.toArray(new String[0]))); keep(); break;
            default: if (!invoke("ref")) { code("null"); } break;
        }
    }

    /** The text with a few bytes or tokens changed. */
    String spoil(String text) {
        StringBuilder spoiled = new StringBuilder(text);
        int times = 1 + upTo(2);
        for (int i = 0; i < times && spoiled.length() > 0; i++) {
            int at = upTo(spoiled.length());
            switch (upTo(6)) {
                case 0: spoiled.deleteCharAt(at); break;
                case 1: spoiled.setCharAt(at, (char) upTo(256)); break;
                case 2: spoiled.insert(at, any(" ", "0", "1", "x", ";", "}", "#", ":", "-", ",")); break;
                case 3: spoiled.setLength(at); break;
                default: changeToken(spoiled, at); break;
            }
        }
        return spoiled.toString();
    }

    private void changeToken(StringBuilder text, int at) {
        int start = at;
        while (start > 0 && Character.isLetterOrDigit(text.charAt(start - 1))) {
            start--;
        }
        int end = at;
        while (end < text.length() && Character.isLetterOrDigit(text.charAt(end))) {
            end++;
        }
        String before = text.substring(start, end);
        String other = any(TOKENS);
        if (oneIn(2)) {
            String[] all = text.toString().split("[^A-Za-z0-9]+");
            other = all.length == 0 ? "" : any(all);
        }
        text.replace(start, end, oneIn(3) ? before + " " + other + " " : other);
    }

    /** The text with a few items, names or words changed so that most tokens still stand where they can. */
    String bend(String text) {
        String bent = text;
        int times = 1 + upTo(3);
        for (int i = 0; i < times; i++) {
            String[] items = bent.split("(?<=[;{}:])");
            int at = upTo(items.length);
            switch (upTo(5)) {
                case 0: items[at] = ""; break;
                case 1: items[at] = items[at] + items[at]; break;
                case 2: {
                    int other = upTo(items.length);
                    String kept = items[at];
                    items[at] = items[other];
                    items[other] = kept;
                    break;
                }
                default: items[at] = bendWord(items[at], bent); break;
            }
            bent = String.join("", items);
        }
        return bent;
    }

    private String bendWord(String item, String text) {
        String[] words = item.trim().split(" +");
        int at = upTo(words.length);
        String word = words[at].replaceAll("[^A-Za-z0-9]", "");
        if (word.isEmpty()) {
            return item;
        }
        String pattern = word.matches("[0-9]+") ? "[0-9]+" : word.matches("[A-Z].*|[flvsmh][0-9]+|main.*") ? "[A-Z].*|[flvsmh][0-9]+|main.*" : "[a-z]+";
        String[] all = text.split("[^A-Za-z0-9]+");
        for (int i = 0; i < 20; i++) {
            String other = any(all);
            if (other.matches(pattern)) {
                return item.replaceFirst("\\b" + word + "\\b", other);
            }
        }
        return item;
    }

    /** Tokens without sense. */
    String babble() {
        StringBuilder text = new StringBuilder(any("", "class A {", "class A { method f() int {", "class A { virtual v(int) none { x: "));
        int tokens = upTo(12);
        for (int i = 0; i < tokens; i++) {
            text.append(any(TOKENS)).append(oneIn(5) ? "" : " ");
        }
        return text.toString();
    }
}
