/** Promise 10, VALUES, MARKS and FLOWS in RUNS: a test for each sentence that names a boundary case. */
public final class ValueEdgeTest {
    private static final int LEAST = -2147483648;
    private static final int MOST = 2147483647;

    public static void main(String[] args) {
        ints();
        sixteenMarks();
        atFirst();
        withoutMarks();
        carried();
        marksOfBoth();
        divisions();
        shifts();
        belowIsFirst();
        againstZero();
        againstEachOther();
        refs();
        lengths();
        fieldsAndElements();
        flowOfIndex();
        flowsOfRefs();
        flowsAtRun();
        isAndAs();
        cleanAndMark();
        sources();
        sinks();
        ofClasses();
        virtuals();
        Bench.finish();
    }

    /** What two ARGUMENTS make. */
    private static void makes(String code, int left, int right, int due) {
        Bench x = new Bench().code("int, int", "int", "load 0; load 1; " + code + "; ret;");
        x.house.argument(0, left, 1);
        x.house.argument(1, right, 32768);
        x.run(1, due, 32769, 4);
    }

    private static void ints() {
        Bench.sentence(10, "A VALUE: an int (32 bits),");
        makes("add", MOST, 1, LEAST);
        makes("add", LEAST, -1, MOST);
        makes("add", LEAST, LEAST, 0);
        makes("sub", LEAST, 1, MOST);
        makes("sub", MOST, -1, LEAST);
        makes("sub", 0, LEAST, LEAST);
        makes("mul", LEAST, -1, LEAST);
        makes("mul", MOST, MOST, 1);
        makes("mul", 65536, 32768, LEAST);
        makes("mul", 65536, 65536, 0);
        makes("and", LEAST, -1, LEAST);
        makes("or", LEAST, MOST, -1);
        makes("xor", LEAST, -1, MOST);
        Bench x = new Bench().code("int", "int", "load 0; neg; ret;");
        int[][] negs = {{LEAST, LEAST}, {MOST, -MOST}, {0, 0}, {-1, 1}};
        for (int[] neg : negs) {
            x.house.argument(0, neg[0], 3);
            x.run(1, neg[1], 3);
        }
        x.code("int", "int", "inc 0 1; load 0; ret;");
        x.house.argument(0, MOST, 4);
        x.run(1, LEAST, 4);
        x.code("int", "int", "inc 0 - 32767; load 0; ret;");
        x.house.argument(0, LEAST, 4);
        x.run(1, MOST - 32766, 4);
        x.code("int", "int", "inc 0 32767; load 0; ret;");
        x.house.argument(0, MOST, 4);
        x.run(1, LEAST + 32766, 4);
    }

    private static void sixteenMarks() {
        Bench.sentence(10, "Each VALUE has MARKS, 16 bits.");
        Bench x = new Bench();
        x.code("", "int", "push 1; mark 65535; ret;").run(1, 1, 65535);
        x.code("", "int", "push 1; mark 32768; ret;").run(1, 1, 32768);
        StringBuilder all = new StringBuilder("source 0; ");
        for (int k = 1; k < 16; k++) {
            all.append("source ").append(k).append("; or; ");
            x.code("", "int", all + "ret;").run(1, 0, (2 << k) - 1);
        }
        x.code("int", "int", "load 0; ret;");
        x.house.argument(0, -1, -1);
        x.run(1, -1, 65535);
    }

    private static void atFirst() {
        Bench.sentence(10, "A FIELD, static, element, LENGTH of an array holds a VALUE with its MARKS. At first they are 0, null, without MARKS.");
        Bench x = new Bench().right("class A { field a int; field b ref; static s int; static t ref; method f() none { new B; pop; push 2; mark 9; ints; pop; push 2; refs; pop; ret; } "
            + "method g() none { gets A s; sink 0; gets A t; is Any; sink 1; new B; get A a; sink 2; new B; get A b; is Any; sink 3; push 1; ints; push 0; iget; sink 4; "
            + "push 1; refs; push 0; rget; is Any; sink 5; push 0; ints; length; sink 6; push 7; mark 3; puts A s; ret; } } class B : A { field c ref; field d int; }", 2);
        x.runOf(0, 0);
        int[] firsts = {0, -1, -1, 0};
        for (int k = 0; k < 4; k++) {
            Bench.due("FIELD " + k, x.house.slot(0, k, 0), firsts[k]);
            Bench.due("its MARKS", x.house.slot(0, k, 1), 0);
        }
        for (int k = 0; k < 2; k++) {
            Bench.due("int element", x.house.slot(1, k, 0), 0);
            Bench.due("its MARKS", x.house.slot(1, k, 1), 0);
            Bench.due("ref element", x.house.slot(2, k, 0), -1);
            Bench.due("its MARKS", x.house.slot(2, k, 1), 0);
            Bench.due("static", x.house.stat(k, 0), -k);
            Bench.due("its MARKS", x.house.stat(k, 1), 0);
        }
        for (int times = 0; times < 2; times++) {
            x.runOf(1, 0);
            for (int i = 0; i < 7; i++) {
                Bench.due("EVENT " + i, x.house.event(i, 1), 0);
                Bench.due("its MARKS", x.house.event(i, 2), 0);
            }
        }
    }

    private static void withoutMarks() {
        Bench.sentence(10, "push, null, new, ints, refs: without MARKS (of the ref).");
        Bench x = new Bench();
        x.code("", "int", "push 5; ret;").run(1, 5, 0);
        x.code("", "ref", "null; ret;").run(2, -1, 0);
        x.code("", "ref", "new A; ret;").run(2, 0, 0);
        for (int flows = 0; flows < 8; flows++) {
            x.house.flows(flows);
            x.code("", "ref", "push 5; mark 65535; ints; ret;").run(2, 0, 0);
            x.code("", "ref", "push 5; mark 65535; refs; ret;").run(2, 0, 0);
        }
    }

    private static void carried() {
        Bench.sentence(10, "load, store, dup, pop, swap, calls, ret carry VALUES with their MARKS; inc leaves them.");
        Bench x = new Bench();
        x.code("int", "int", "load 0; store 15; load 15; dup; pop; push 3; mark 8; swap; pop; pop; load 15; ret;");
        x.house.argument(0, 5, 65535);
        x.run(1, 5, 65535);
        x.code("int", "int", "load 0; push 3; mark 8; swap; ret;");
        x.house.argument(0, 5, 6);
        x.run(1, 5, 6);
        x.code("int", "int", "load 0; push 3; mark 8; swap; pop; ret;");
        x.house.argument(0, 5, 6);
        x.run(1, 3, 8);
        x.code("int", "int", "inc 0 1; inc 0 0; inc 0 - 5; load 0; ret;");
        x.house.argument(0, 5, 65535);
        x.run(1, 1, 65535);
        x.code("ref", "ref", "load 0; store 9; load 9; dup; store 8; ret;");
        x.house.argument(0, 5, 6);
        x.run(2, -1, 6);
        x.right("class A { method f(int, ref, int, int, int, int) int { load 0; sink 0; load 1; is Any; sink 1; load 2; sink 2; load 3; sink 3; load 4; sink 4; load 5; sink 5; load 5; ret; } "
            + "method g(int, ref, int, int, int, int) int { load 0; load 1; load 2; load 3; load 4; load 5; call A f; ret; } virtual v(int, ref) ref { load 1; sink 0; load 2; is Any; sink 1; load 2; ret; } "
            + "method h(int, ref) ref { new A; load 0; load 1; virt A v; ret; } }", 4);
        for (int i = 0; i < 6; i++) {
            x.house.argument(i, i + 1, 1 << i);
        }
        x.runOf(1, 1, 6, 32);
        for (int i = 0; i < 6; i++) {
            Bench.due("KIND " + i, x.house.event(i, 1), i == 1 ? 0 : i + 1);
            Bench.due("its MARKS", x.house.event(i, 2), 1 << i);
        }
        x.runOf(3, 2, -1, 2);
        Bench.due("of a virtual", x.house.event(0, 2), 1);
        Bench.due("of a virtual", x.house.event(1, 2), 2);
    }

    private static void marksOfBoth() {
        Bench.sentence(10, "add .. ushr: the MARKS of both; neg: as they are.");
        for (String code : "add sub mul div rem and or xor shl shr ushr".split(" ")) {
            int[][] marks = {{0, 0}, {0, 65535}, {65535, 0}, {1, 1}, {32768, 1}, {21845, 43690}};
            for (int[] two : marks) {
                Bench x = new Bench().code("int, int", "int", "load 0; load 1; " + code + "; ret;");
                x.house.argument(0, 0, two[0]);
                x.house.argument(1, 1, two[1]);
                x.run(1, code.equals("sub") ? -1 : code.equals("add") || code.equals("or") || code.equals("xor") ? 1 : 0, two[0] | two[1]);
            }
        }
        for (int marks : new int[] {0, 1, 65535}) {
            Bench x = new Bench().code("int", "int", "load 0; neg; ret;");
            x.house.argument(0, 3, marks);
            x.run(1, -3, marks);
        }
    }

    private static void divisions() {
        Bench.sentence(10, "/ and % as in Java (the least int by -1: itself, 0);");
        makes("div", LEAST, -1, LEAST);
        makes("rem", LEAST, -1, 0);
        makes("div", MOST, -1, -MOST);
        makes("rem", MOST, -1, 0);
        makes("div", LEAST, 1, LEAST);
        makes("rem", LEAST, 1, 0);
        makes("div", LEAST, LEAST, 1);
        makes("rem", LEAST, LEAST, 0);
        makes("div", LEAST, 2, -1073741824);
        makes("div", MOST, LEAST, 0);
        makes("rem", MOST, LEAST, MOST);
        makes("rem", LEAST, MOST, -1);
        makes("div", -7, 2, -3);
        makes("rem", -7, 2, -1);
        makes("div", 7, -2, -3);
        makes("rem", 7, -2, 1);
        makes("div", -7, -2, 3);
        makes("rem", -7, -2, -1);
        makes("div", 0, -5, 0);
        makes("rem", 0, -5, 0);
        makes("div", 1, 2, 0);
    }

    private static void shifts() {
        Bench.sentence(10, "shl, shr, ushr by the lowest five bits.");
        int[] by = {0, 1, 31, 32, 33, 63, 64, -1, -31, -32, -33, LEAST, MOST, LEAST + 4};
        for (int value : new int[] {1, -1, LEAST, MOST, 0, -123456789}) {
            for (int shift : by) {
                int five = Math.floorMod(shift, 32);
                long twoToThe = 1L << five;
                makes("shl", value, shift, (int) (value * twoToThe));
                makes("shr", value, shift, (int) Math.floorDiv((long) value, twoToThe));
                makes("ushr", value, shift, (int) (Integer.toUnsignedLong(value) / twoToThe));
            }
        }
    }

    private static void belowIsFirst() {
        Bench.sentence(10, "Of two VALUES the one below is the first: 7 and then 2 on top of it: sub makes 5, div 3, rem 1, shl 28, shr 1; cmpgt, cmpge L go to L, cmplt, cmple don't.");
        String[] codes = {"sub", "div", "rem", "shl", "shr", "ushr", "add", "mul"};
        int[] due = {5, 3, 1, 28, 1, 1, 9, 14};
        for (int i = 0; i < codes.length; i++) {
            new Bench().code("", "int", "push 7; push 2; " + codes[i] + "; ret;").run(1, due[i], 0, 4);
        }
        String[] compares = {"gt", "ge", "lt", "le", "eq", "ne"};
        boolean[] goes = {true, true, false, false, false, true};
        for (int i = 0; i < 6; i++) {
            new Bench().code("", "int", "push 7; push 2; cmp" + compares[i] + " x; push 0; ret; x: push 1; ret;").run(1, goes[i] ? 1 : 0, 0, 5);
        }
    }

    private static void againstZero() {
        Bench.sentence(10, "ifeq L, ifne, iflt, ifge, ifgt, ifle (an int against 0);");
        String[] words = {"eq", "ne", "lt", "ge", "gt", "le"};
        for (int value : new int[] {0, 1, -1, LEAST, MOST}) {
            boolean[] goes = {value == 0, value != 0, value < 0, value >= 0, value > 0, value <= 0};
            for (int i = 0; i < 6; i++) {
                Bench x = new Bench().code("int", "int", "load 0; if" + words[i] + " x; push 0; ret; x: push 1; ret;");
                x.house.argument(0, value, 65535);
                x.run(1, goes[i] ? 1 : 0, 0, 4);
            }
        }
    }

    private static void againstEachOther() {
        Bench.sentence(10, "cmpeq L, cmpne, cmplt, cmpge, cmpgt, cmple (two ints);");
        String[] words = {"eq", "ne", "lt", "ge", "gt", "le"};
        int[] values = {0, 1, -1, LEAST, MOST, LEAST + 1, MOST - 1};
        for (int left : values) {
            for (int right : values) {
                boolean[] goes = {left == right, left != right, left < right, left >= right, left > right, left <= right};
                for (int i = 0; i < 6; i++) {
                    Bench x = new Bench().code("int, int", "int", "load 0; load 1; cmp" + words[i] + " x; push 0; ret; x: push 1; ret;");
                    x.house.argument(0, left, 65535);
                    x.house.argument(1, right, 1);
                    x.run(1, goes[i] ? 1 : 0, 0, 5);
                }
            }
        }
    }

    private static void refs() {
        Bench.sentence(10, "or a ref: null, an OBJECT, an ARRAY of ints or of refs.");
        allRefs();
        Bench.sentence(10, "ifnull L, ifsome L; same L, other L (two refs);");
        String[] firsts = {"null", "new A", "push 0; ints", "push 0; refs"};
        for (int i = 0; i < firsts.length; i++) {
            boolean isNull = i == 0;
            new Bench().code("", "int", firsts[i] + "; ifnull x; push 0; ret; x: push 1; ret;").run(1, isNull ? 1 : 0);
            new Bench().code("", "int", firsts[i] + "; ifsome x; push 0; ret; x: push 1; ret;").run(1, isNull ? 0 : 1);
            new Bench().code("", "int", firsts[i] + "; dup; same x; push 0; ret; x: push 1; ret;").run(1, 1);
            new Bench().code("", "int", firsts[i] + "; dup; other x; push 0; ret; x: push 1; ret;").run(1, 0);
            for (int j = 0; j < firsts.length; j++) {
                boolean same = isNull && j == 0;
                new Bench().code("", "int", firsts[i] + "; " + firsts[j] + "; same x; push 0; ret; x: push 1; ret;").run(1, same ? 1 : 0);
                new Bench().code("", "int", firsts[i] + "; " + firsts[j] + "; other x; push 0; ret; x: push 1; ret;").run(1, same ? 0 : 1);
            }
        }
        // MARKS make no difference.
        Bench x = new Bench().code("ref, ref", "int", "load 0; load 1; same x; push 0; ret; x: push 1; ret;");
        x.house.argument(0, 1, 5);
        x.house.argument(1, 2, 10);
        x.run(1, 1, 0);
    }

    private static void allRefs() {
        String[] firsts = {"null", "new A", "push 1; ints", "push 1; refs"};
        int[] types = {-1, 7, -2, -3};
        for (int i = 0; i < 4; i++) {
            Bench x = new Bench().right("class A { static t ref; field b ref; method f() ref { " + firsts[i] + "; dup; puts A t; dup; store 0; new A; store 1; load 1; load 0; put A b; push 1; refs; store 2; "
                + "load 2; push 0; load 0; rput; ret; } }", 1);
            int made = i == 0 ? 0 : 1;
            x.run(2, made - 1);
            Bench.due("static", x.house.stat(0, 0), made - 1);
            Bench.due("FIELD", x.house.slot(made, 0, 0), made - 1);
            Bench.due("element", x.house.slot(made + 1, 0, 0), made - 1);
            Bench.due("class", made == 0 ? -1 : x.house.object(0, 0), types[i]);
        }
    }

    private static void lengths() {
        Bench.sentence(10, "ints, refs: the LENGTH has the number's MARKS.");
        for (String word : "ints refs".split(" ")) {
            for (int length : new int[] {0, 1, 2999}) {
                Bench x = new Bench().code("int", "int", "load 0; " + word + "; length; ret;");
                x.house.argument(0, length, 65535 - length);
                x.run(1, length, 65535 - length, 4, 0, 0, 1, 1 + length);
                Bench.due("MARKS of the LENGTH", x.house.object(0, 2), 65535 - length);
                Bench.due("LENGTH", x.house.object(0, 1), length);
                for (int k = 0; k < length; k += 499) {
                    Bench.due("MARKS of an element", x.house.slot(0, k, 1), 0);
                }
            }
        }
    }

    private static void fieldsAndElements() {
        Bench.sentence(10, "get: the FIELD's; put: the VALUE's come into the FIELD. iget, rget: the element's; iput, rput: the VALUE's come into the element. length: the LENGTH's.");
        Bench x = new Bench().right("class A { field a int; field b ref; method f(int, ref) none { new A; store 2; load 2; load 0; put A a; load 2; load 1; put A b; load 2; get A a; sink 0; load 2; get A b; is Any; sink 1; "
            + "load 2; push 3; put A a; load 2; get A a; sink 2; push 2; ints; store 3; load 3; push 1; load 0; iput; load 3; push 1; iget; sink 3; load 3; push 0; iget; sink 4; "
            + "push 2; refs; store 4; load 4; push 0; load 1; rput; load 4; push 0; rget; is Any; sink 5; load 4; push 1; rget; is Any; sink 6; load 3; length; sink 7; ret; } }", 1);
        x.house.argument(0, 9, 65535);
        x.house.argument(1, 9, 32769);
        x.run(0);
        int[] values = {9, 0, 3, 9, 0, 0, 0, 2};
        int[] marks = {65535, 32769, 0, 65535, 0, 32769, 0, 0};
        for (int i = 0; i < 8; i++) {
            Bench.due("EVENT " + i, x.house.event(i, 1), values[i]);
            Bench.due("its MARKS", x.house.event(i, 2), marks[i]);
        }
        Bench.due("the FIELD behind the second put", x.house.slot(0, 0, 1), 0);
    }

    /** An element written and read with index MARKS 1 and 2, VALUE MARK 4. */
    private static void flowOfIndex() {
        Bench.sentence(10, "bit 1: iget, rget also the index's; iput, rput also the index's into the element.");
        for (int flows = 0; flows < 8; flows++) {
            boolean index = (flows & 1) != 0;
            Bench x = new Bench().code("int, int, int, ref", "none", "push 1; ints; store 4; load 4; load 0; load 2; iput; load 4; load 1; iget; sink 0;"
                + " push 1; refs; store 5; load 5; load 0; load 3; rput; load 5; load 1; rget; is Any; sink 1; push 0; mark 8; ints; length; sink 2; ret;");
            x.house.argument(0, 0, 1);
            x.house.argument(1, 0, 2);
            x.house.argument(2, 7, 4);
            x.house.argument(3, 7, 4);
            x.house.flows(flows);
            x.run(0);
            for (int i = 0; i < 2; i++) {
                Bench.due("the element with FLOWS " + flows, x.house.slot(i, 0, 1), index ? 5 : 4);
                Bench.due("what is read with FLOWS " + flows, x.house.event(i, 2), index ? 7 : 4);
            }
            Bench.due("a LENGTH with FLOWS " + flows, x.house.event(2, 2), 8);
        }
    }

    /** Refs with MARK 1 come to a METHOD from a FIELD that put has marked; VALUES have MARK 4. */
    private static void flowsOfRefs() {
        Bench.sentence(10, "Bit 2: get, iget, rget, length also the ref's.");
        // rget with flow 1 gives a ref the index's MARK 1, in each RUN here.
        String head = "class A { field a int; field b ref; method m(ref) ref { push 1; refs; dup; push 0; load 0; rput; push 0; mark 1; rget; ret; } "
            + "method o() ref { new A; call A m; ret; } method i() ref { push 1; ints; call A m; ret; } method r() ref { push 1; refs; call A m; ret; } method f() none { ";
        String reads = "call A o; get A a; sink 0; call A o; get A b; is Any; sink 1; call A i; push 0; iget; sink 2; call A r; push 0; rget; is Any; sink 3; call A i; length; sink 4; call A r; length; sink 5; ret; } }";
        for (int flows = 1; flows < 8; flows += 2) {
            Bench x = new Bench().right(head + reads, 5);
            x.house.flows(flows);
            x.runOf(4, 0);
            for (int i = 0; i < 6; i++) {
                Bench.due("read " + i + " with FLOWS " + flows, x.house.event(i, 2), (flows & 2) != 0 ? 1 : 0);
            }
        }
        Bench.sentence(10, "Bit 4: put, iput, rput also the ref's into what they write.");
        String writes = "call A o; push 3; mark 4; put A a; call A o; null; put A b; call A i; push 0; push 3; mark 4; iput; call A r; push 0; null; rput; ret; } }";
        for (int flows = 1; flows < 8; flows += 2) {
            Bench x = new Bench().right(head + writes, 5);
            x.house.flows(flows);
            x.runOf(4, 0, 0, 0);
            int ref = (flows & 4) != 0 ? 1 : 0;
            Bench.due("put of an int with FLOWS " + flows, x.house.slot(0, 0, 1), 4 | ref);
            Bench.due("put of a ref with FLOWS " + flows, x.house.slot(2, 1, 1), ref);
            Bench.due("iput with FLOWS " + flows, x.house.slot(4, 0, 1), 4 | ref);
            Bench.due("rput with FLOWS " + flows, x.house.slot(6, 0, 1), ref);
            Bench.due("what isn't written", x.house.slot(2, 0, 1), 0);
            Bench.due("nor the LENGTH", x.house.object(4, 2), 0);
        }
    }

    private static void flowsAtRun() {
        Bench.sentence(10, "FLOWS are 1, 2, 4, as they are at run(); INPUTS, POLICIES likewise.");
        Bench x = new Bench().code("", "int", "push 3; ints; push 1; mark 2; iget; source 4; add; dup; sink 5; ret;");
        x.house.input(4, 10);
        x.run(1, 10, 16, 10, 1, 0);
        x.house.flows(1);
        x.house.input(4, -3);
        x.house.policy(5, 2);
        int[] before = {1, 10, 16, 10, 1, 0};
        for (int what = 0; what < 6; what++) {
            Bench.due("result(" + what + ") of the RUN before", x.house.result(what), before[what]);
        }
        Bench.due("its EVENT", x.house.event(0, 3), 0);
        x.run(1, -3, 18, 10, 1, 1);
        x.house.flows(0);
        x.house.policy(5, 0);
        x.run(1, -3, 16, 10, 1, 0);
        Bench.sentence(10, "text() leaves FLOWS, POLICIES, INPUTS.");
        x.house.flows(5);
        x.house.policy(5, 16);
        x.house.input(4, 77);
        x.right("class A { method f() int { push 3; ints; push 1; mark 2; iget; source 4; add; dup; sink 5; ret; } }", 1);
        x.run(1, 77, 18, 10, 1, 1);
        x.wrong("", 0);
        x.run(1, 77, 18, 10, 1, 1);
        Bench.due("flows", x.house.flows(0), 5);
        Bench.due("policy", x.house.policy(5, 0), 16);
        Bench.due("input", x.house.input(4, 0), 77);
    }

    private static void isAndAs() {
        Bench.sentence(10, "is: 1 or 0 (null: 0), the ref's MARKS; as: as it is.");
        for (String name : "Any Fault A".split(" ")) {
            Bench x = new Bench().code("ref", "int", "load 0; is " + name + "; ret;");
            x.house.argument(0, 1, 65535);
            x.run(1, 0, 65535);
            x.code("ref", "ref", "load 0; as " + name + "; ret;");
            x.house.argument(0, 1, 65535);
            x.run(2, -1, 65535, 3);
        }
        String[] things = {"new A", "new B", "new Any", "new NullFault", "push 0; ints", "push 0; refs"};
        String[] names = {"Any", "A", "B", "Fault", "NullFault", "CastFault"};
        String[] due = {"110000", "111000", "100000", "100110", "100000", "100000"};
        for (int i = 0; i < things.length; i++) {
            for (int j = 0; j < names.length; j++) {
                int is = due[i].charAt(j) - '0';
                new Bench().right("class A { } class B : A { method f() int { " + things[i] + "; is " + names[j] + "; ret; } }", 1).run(1, is);
                Bench x = new Bench().right("class A { } class B : A { method f() ref { " + things[i] + "; as " + names[j] + "; ret; } }", 1);
                x.run(is == 1 ? 2 : 3, 1 - is);
                Bench.due("what " + things[i] + "; as " + names[j] + " made", x.house.result(6), 2 - is);
                Bench.due("its class", x.house.object(1, 0), is == 1 ? -1 : 6);
            }
        }
    }

    private static void cleanAndMark() {
        Bench.sentence(10, "clean N: an int without the MARKS of N; mark N: with them besides.");
        int[] some = {0, 1, 32768, 65535, 21845};
        for (int before : some) {
            for (int n : some) {
                Bench x = new Bench().code("int", "int", "load 0; clean " + n + "; ret;");
                x.house.argument(0, -9, before);
                x.run(1, -9, before & ~n, 3);
                x.code("int", "int", "load 0; mark " + n + "; ret;");
                x.house.argument(0, -9, before);
                x.run(1, -9, before | n, 3);
            }
        }
    }

    private static void sources() {
        Bench.sentence(10, "source k: INPUT k, with MARK k alone (2 to the k).");
        Bench x = new Bench();
        int power = 1;
        for (int k = 0; k < 16; k++) {
            x.code("", "int", "source " + k + "; ret;");
            x.run(1, 0, power, 2);
            x.house.input(k, k % 2 == 0 ? LEAST + k : MOST - k);
            x.run(1, k % 2 == 0 ? LEAST + k : MOST - k, power, 2);
            power = power * 2;
        }
    }

    private static void sinks() {
        Bench.sentence(10, "sink k: an EVENT: k, the int, its MARKS; it is an ALARM if the POLICY of k has one of them.");
        int[] some = {0, 1, 2, 3, 32768, 65535, 65534};
        for (int k = 0; k < 16; k += 5) {
            Bench x = new Bench().code("int", "none", "load 0; sink " + k + "; ret;");
            for (int marks : some) {
                for (int policy : some) {
                    x.house.argument(0, marks - 5, marks);
                    x.house.policy(k, policy);
                    x.house.policy((k + 1) % 16, ~policy);
                    int alarm = (marks & policy) != 0 ? 1 : 0;
                    x.run(0, 0, 0, 3, 1, alarm, 0, 0);
                    int[] due = {k, marks - 5, marks, alarm};
                    for (int what = 0; what < 4; what++) {
                        Bench.due("event(0, " + what + ")", x.house.event(0, what), due[what]);
                    }
                }
            }
        }
    }

    private static void ofClasses() {
        Bench.sentence(10, "An OBJECT is of its class and of all above it; an ARRAY of Any alone.");
        // The longest row of classes above one another: each OBJECT is of those above it, none below.
        StringBuilder text = new StringBuilder("class A0{}");
        for (int c = 1; c < 11; c++) {
            text.append("class A").append(c).append(":A").append(c - 1).append("{}");
        }
        for (int c = 0; c < 11; c++) {
            StringBuilder codes = new StringBuilder();
            for (int d = 0; d < 11; d++) {
                codes.append("load 0;is A").append(d).append(";sink 0;");
            }
            Bench x = new Bench().right(text + "class M{method f()none{new A" + c + ";store 0;" + codes + "load 0;is Any;sink 0;load 0;is Fault;sink 0;load 0;is M;sink 0;ret;}}", 1);
            x.run(0);
            for (int d = 0; d < 11; d++) {
                Bench.due("is A" + d, x.house.event(d, 1), d <= c ? 1 : 0);
            }
            Bench.due("is Any", x.house.event(11, 1), 1);
            Bench.due("is Fault", x.house.event(12, 1), 0);
            Bench.due("is M", x.house.event(13, 1), 0);
        }
    }

    private static void virtuals() {
        Bench.sentence(10, "(the METHOD is that of the NAME in the OBJECT's class, or else the next one above);");
        StringBuilder text = new StringBuilder("class A0{virtual v()int{push 0;ret;}}");
        for (int c = 1; c < 11; c++) {
            text.append("class A").append(c).append(":A").append(c - 1).append("{").append(c % 3 == 0 ? "virtual v()int{push " + c + ";ret;}" : c % 3 == 1 ? "method v()none{ret;}" : "").append("}");
        }
        int methods = 1 + 3 + 4;
        for (int c = 0; c < 11; c++) {
            for (int d = 0; d <= c; d++) {
                Bench x = new Bench().right(text + "class M{method f()int{new A" + c + ";virt A" + d + " v;ret;}}", methods + 1);
                x.runOf(methods, 1, c / 3 * 3, 0, 5);
            }
        }
    }
}
