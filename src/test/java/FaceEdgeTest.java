/** Promises 1 to 3, 5 to 9 and 16 to 18: a test for each sentence that names a boundary case. */
public final class FaceEdgeTest {
    private static final int LEAST = -2147483648;
    private static final int MOST = 2147483647;
    /** Numbers that are none of anything. */
    private static final int[] FAR = {LEAST, LEAST + 1, -65536, -100, -2, 1000, 65536, MOST - 1, MOST};
    /** Local 6 of its METHOD 0 is ARGUMENT 6, which it ends with; METHOD 1 gives EVENTS of locals 0 to 5. */
    private static final String SEVEN = "class A { virtual v(int, int, int, int, int, int) int { load 6; ret; } "
        + "method m(int, int, int, int, int, int) none { load 0; sink 0; load 1; sink 1; load 2; sink 2; load 3; sink 3; load 4; sink 4; load 5; sink 5; ret; } }";

    public static void main(String[] args) {
        none();
        lastCalls();
        newObject();
        feedRefused();
        feedOrder();
        endRefused();
        firstBytesAlone();
        place();
        flows();
        policyBits();
        policyOfNoK();
        inputs();
        inputOfNoK();
        arguments();
        argumentMarks();
        types();
        firstClasses();
        mostOfTypes();
        methods();
        mostOfMethods();
        counts();
        Bench.finish();
    }

    private static void none() {
        Bench.sentence(1, "public static final int NONE = -1;");
        Bench.due("NONE", TaintHouse.NONE, -1);
    }

    private static void lastCalls() {
        Bench.sentence(1, "An object is used for at most 512 calls after it has been made; what later calls answer is free.");
        TaintHouse x = new TaintHouse();
        int calls = 0;
        String text = "class A{static s int;method f()none{x:gets A s;push 1;add;puts A s;goto x;}}";
        for (int at = 0; at < 80; at += 20) {
            x.feed(word(text, at), word(text, at + 4), word(text, at + 8), word(text, at + 12), word(text, at + 16));
            calls++;
        }
        x.end(text.length());
        x.text();
        calls += 2;
        while (calls < 507) {
            Bench.due("run(0), call " + calls, x.run(0), 4);
            Bench.due("result(3)", x.result(3), 20000);
            calls += 2;
        }
        Bench.due("stat(0, 0), call " + ++calls, x.stat(0, 0), 4000);
        Bench.due("flows(7), call " + ++calls, x.flows(7), 0);
        while (calls < 511) {
            Bench.due("count(3), call " + ++calls, x.count(3), 7);
        }
        Bench.due("run(0), call 512", x.run(0), 4);
    }

    private static int word(String text, int at) {
        int number = 0;
        for (int i = at; i < at + 4; i++) {
            number = number << 8 | (i < text.length() ? text.charAt(i) : 0);
        }
        return number;
    }

    private static void newObject() {
        Bench.sentence(1, "No classes but the first seven, no RUN; FLOWS 0, all POLICIES 0, INPUTS 0.");
        TaintHouse x = new TaintHouse();
        Bench.due("CLASSES", x.count(0), 7);
        Bench.due("the seventh", x.type(6, 0), 1);
        Bench.due("an eighth", x.type(7, 0), -1);
        Bench.due("METHODS", x.count(1), 0);
        Bench.due("run(0)", x.run(0), -10);
        Bench.due("method(0, 0)", x.method(0, 0), -1);
        for (int what = 0; what < 8; what++) {
            Bench.due("result(" + what + ")", x.result(what), -1);
        }
        Bench.due("event(0, 0)", x.event(0, 0), -1);
        Bench.due("object(0, 0)", x.object(0, 0), -1);
        Bench.due("slot(0, 0, 0)", x.slot(0, 0, 0), -1);
        Bench.due("stat(0, 0)", x.stat(0, 0), -1);
        Bench.due("FLOWS", x.count(3), 0);
        Bench.due("flows(0)", x.flows(0), 0);
        Bench.due("bytes", x.count(4), 0);
        Bench.due("place()", x.place(), -1);
        for (int k = 0; k < 16; k++) {
            Bench.due("policy(" + k + ", 0)", x.policy(k, 0), 0);
            Bench.due("input(" + k + ", 0)", x.input(k, 0), 0);
        }
    }

    private static void feedRefused() {
        Bench.sentence(2, "false, and nothing happens, if it would have more than 4000.");
        for (int cut = 0; cut <= 20; cut++) {
            TaintHouse x = new TaintHouse();
            for (int i = 0; i < 200; i++) {
                Bench.due("feed " + i, x.feed(0x20202020, 0x20202020, 0x20202020, 0x20202020, 0x20202020), true);
            }
            Bench.due("a full tape", x.count(4), 4000);
            Bench.due("end", x.end(4000 - cut), true);
            boolean fits = cut == 20;
            Bench.due("feed behind " + (4000 - cut), x.feed(0x21212121, 0x21212121, 0x21212121, 0x21212121, 0x21212121), fits);
            Bench.due("bytes", x.count(4), fits ? 4000 : 4000 - cut);
            Bench.due("what stands on the tape", x.text(), fits ? -3981 : -4001 + cut);
        }
        Bench.sentence(2, "THE TAPE has at most 4000 bytes.");
        Bench x = new Bench();
        Bench.due("4000 bytes", Bench.put(x.house, "class A { }" + TextTest.many(" ", 3989)), true);
        Bench.due("feed", x.house.feed(0, 0, 0, 0, 0), false);
        Bench.due("text()", x.house.text(), 0);
        Bench.due("feed behind a text", x.house.feed(0, 0, 0, 0, 0), true);
    }

    private static void feedOrder() {
        Bench.sentence(2, "Twenty bytes more on the tape, four in each number, the highest first;");
        // Each byte but one is a blank: the text is WRONG at that one, also if it has the sign bit.
        for (int at = 0; at < 20; at++) {
            for (int sign : new int[] {0, 1, 33, 127, 128, 255}) {
                int[] numbers = {0x20202020, 0x0A0A0A0A, 0x0D0D0D0D, 0x09090909, 0x20202020};
                int shift = 24 - at % 4 * 8;
                numbers[at / 4] = numbers[at / 4] & ~(255 << shift) | sign << shift;
                TaintHouse x = new TaintHouse();
                Bench.due("feed", x.feed(numbers[0], numbers[1], numbers[2], numbers[3], numbers[4]), true);
                Bench.due("bytes", x.count(4), 20);
                Bench.due("text() with " + sign + " at " + at, x.text(), -1 - at);
            }
        }
        TaintHouse x = new TaintHouse();
        Bench.due("feed", x.feed(-1, -1, -1, -1, -1), true);
        Bench.due("bytes", x.count(4), 20);
        Bench.due("feed again", x.feed(LEAST, MOST, LEAST, MOST, 0), true);
        Bench.due("bytes", x.count(4), 40);
    }

    private static void endRefused() {
        Bench.sentence(3, "false, and nothing happens, if it has not so many, or n is below 0.");
        TaintHouse x = new TaintHouse();
        Bench.due("end(0) of an empty tape", x.end(0), true);
        Bench.due("end(1) of an empty tape", x.end(1), false);
        Bench.due("end(-1) of an empty tape", x.end(-1), false);
        Bench.put(x, "class A { }");
        for (int n : new int[] {12, 13, 20, 4000, 4001, MOST, -1, -2, -12, LEAST}) {
            Bench.due("end(" + n + ") of 11", x.end(n), false);
            Bench.due("bytes", x.count(4), 11);
        }
        Bench.due("end(11) of 11", x.end(11), true);
        Bench.due("the text is as it was", x.text(), 0);
        Bench.due("end(1) behind a text", x.end(1), false);
        for (int i = 0; i < 200; i++) {
            x.feed(0x20202020, 0x20202020, 0x20202020, 0x20202020, 0x20202020);
        }
        Bench.due("end(4001) of 4000", x.end(4001), false);
        Bench.due("end(4000) of 4000", x.end(4000), true);
        Bench.due("end(3999) of 4000", x.end(3999), true);
        Bench.due("end(4000) of 3999", x.end(4000), false);
        Bench.due("end(0) of 3999", x.end(0), true);
        Bench.due("end(1) of 0", x.end(1), false);
        Bench.due("text()", x.text(), -1);
    }

    private static void firstBytesAlone() {
        Bench.sentence(3, "The tape has its first n bytes alone;");
        Bench x = new Bench();
        String text = "class A { field b int; }";
        for (int n = 0; n < text.length(); n++) {
            Bench.put(x.house, text);
            Bench.due("end(" + n + ")", x.house.end(n), true);
            Bench.due("bytes", x.house.count(4), n);
            Bench.put(x.house, text.substring(n));
            Bench.due("text() with the rest put again", x.house.text(), 0);
            Bench.due("FIELDS", x.house.type(7, 1), 1);
        }
    }

    private static void place() {
        Bench.sentence(5, "The PLACE of the FAULT that the latest text() told; NONE if it told none.");
        Bench x = new Bench();
        Bench.due("without a text", x.house.place(), -1);
        String[] faults = {"class A{}class ^A{}", "class A:^B{}", "class A{virtual v()none{ret;}}class B:A{virtual ^v(int)none{ret;}}",
            "class A{method f()none{a:ret;try ^a a a Any;}}", "class A{method f()none{^}}"};
        for (int kind = 1; kind <= 5; kind++) {
            x.faultAt(kind, faults[kind - 1]);
            Bench.due("asked again", x.house.place(), faults[kind - 1].indexOf('^'));
            Bench.put(x.house, "class");
            x.house.run(0);
            Bench.due("ahead of the next text()", x.house.place(), faults[kind - 1].indexOf('^'));
            Bench.due("a WRONG one", x.house.text(), -6);
            Bench.due("behind a WRONG one", x.house.place(), -1);
            x.faultAt(kind, faults[kind - 1]);
            Bench.due("an empty one", x.house.text(), -1);
            Bench.due("behind an empty one", x.house.place(), -1);
            x.faultAt(kind, faults[kind - 1]);
            x.right("class A{}", 0);
        }
        x.faultAt(1, TextTest.many(" ", 3984) + "class ^Any{}");
        x.faultAt(5, TextTest.many(" ", 3974) + "class A{method f()none{^}}");
    }

    private static void flows() {
        Bench.sentence(6, "FLOWS are v (its lowest three bits) in RUNS from now on: what they were.");
        TaintHouse x = new TaintHouse();
        int before = 0;
        for (int v : new int[] {7, 8, -1, 0, 9, 15, 16, -8, -7, LEAST, MOST, 1, 2, 4, 6, LEAST + 3}) {
            Bench.due("flows(" + v + ")", x.flows(v), before);
            before = v & 7;
            Bench.due("FLOWS", x.count(3), before);
        }
        Bench ahead = new Bench().code("", "int", "push 1; ints; push 0; mark 2; iget; ret;");
        ahead.house.flows(9);
        ahead.run(1, 0, 2);
        ahead.house.flows(14);
        Bench.due("a RUN that was", ahead.house.result(2), 2);
        ahead.run(1, 0, 0);
    }

    private static void policyBits() {
        Bench.sentence(7, "The POLICY of k is v (its lowest sixteen bits): what it was;");
        TaintHouse x = new TaintHouse();
        for (int k = 0; k < 16; k++) {
            int before = 0;
            for (int v : new int[] {1, 65535, 65536, -1, 65537, LEAST, MOST, -65536, 32768, 131071, k + 1}) {
                Bench.due("policy(" + k + ", " + v + ")", x.policy(k, v), before);
                before = v & 65535;
            }
        }
        for (int k = 0; k < 16; k++) {
            Bench.due("each has its own, " + k, x.policy(k, 0), k + 1);
        }
        Bench run = new Bench().code("", "none", "push 1; mark 65535; sink 0; ret;");
        run.house.policy(0, 65536);
        run.run(0, 0, 0, 4, 1, 0);
        run.house.policy(0, 65536 + 32768);
        run.run(0, 0, 0, 4, 1, 1);
    }

    private static void policyOfNoK() {
        Bench.sentence(7, "-15 no k of 0 .. 15.");
        TaintHouse x = new TaintHouse();
        for (int k = 0; k < 16; k++) {
            x.policy(k, 100 + k);
        }
        Bench.due("policy(-1, 7)", x.policy(-1, 7), -15);
        Bench.due("policy(16, 7)", x.policy(16, 7), -15);
        for (int k : FAR) {
            Bench.due("policy(" + k + ", 7)", x.policy(k, 7), -15);
        }
        for (int k = 0; k < 16; k++) {
            Bench.due("no POLICY changed, " + k, x.policy(k, 0), 100 + k);
            Bench.due("nor an INPUT", x.input(k, 0), 0);
        }
    }

    private static void inputs() {
        Bench.sentence(8, "INPUT k is v: what it was;");
        TaintHouse x = new TaintHouse();
        for (int k = 0; k < 16; k++) {
            int before = 0;
            for (int v : new int[] {1, -1, LEAST, MOST, 65536, 0, -65536, 200 + k}) {
                Bench.due("input(" + k + ", " + v + ")", x.input(k, v), before);
                before = v;
            }
        }
        for (int k = 0; k < 16; k++) {
            Bench.due("each has its own, " + k, x.input(k, 0), 200 + k);
        }
    }

    private static void inputOfNoK() {
        Bench.sentence(8, "NONE (as -1 may be, too) if there is no such k.");
        TaintHouse x = new TaintHouse();
        for (int k = 0; k < 16; k++) {
            x.input(k, 300 + k);
        }
        Bench.due("input(-1, 7)", x.input(-1, 7), -1);
        Bench.due("input(16, 7)", x.input(16, 7), -1);
        for (int k : FAR) {
            Bench.due("input(" + k + ", 7)", x.input(k, 7), -1);
        }
        for (int k = 0; k < 16; k++) {
            Bench.due("no INPUT changed, " + k, x.input(k, -1), 300 + k);
            Bench.due("-1 that was put, " + k, x.input(k, 0), -1);
        }
    }

    private static void arguments() {
        Bench.sentence(9, "ARGUMENT i (0 .. 6) is v, with MARKS m (their lowest sixteen bits): 1; -15 no such i.");
        Bench x = new Bench().right(SEVEN, 2);
        for (int i = 0; i < 7; i++) {
            Bench.due("argument(" + i + ")", x.house.argument(i, i == 3 ? LEAST : i == 4 ? MOST : -1 - i, 1 << i), 1);
        }
        for (int i : new int[] {-1, 7, 8, 15, 16}) {
            Bench.due("argument(" + i + ")", x.house.argument(i, 9, 9), -15);
        }
        for (int i : FAR) {
            Bench.due("argument(" + i + ")", x.house.argument(i, 9, 9), -15);
        }
        x.runOf(0, 1, -7, 64);
        x.runOf(1, 0);
        int[] due = {-1, -2, -3, LEAST, MOST, -6};
        for (int i = 0; i < 6; i++) {
            Bench.due("ARGUMENT " + i, x.house.event(i, 1), due[i]);
            Bench.due("its MARKS", x.house.event(i, 2), 1 << i);
        }
    }

    private static void argumentMarks() {
        Bench.sentence(9, "with MARKS m (their lowest sixteen bits)");
        Bench x = new Bench().right(SEVEN, 2);
        for (int m : new int[] {0, 1, 32768, 65535, 65536, 65537, 131071, -1, -65536, LEAST, MOST}) {
            Bench.due("argument(6, 4, " + m + ")", x.house.argument(6, 4, m), 1);
            Bench.due("argument(0, 5, " + m + ")", x.house.argument(0, 5, m), 1);
            x.runOf(0, 1, 4, m & 65535);
            x.runOf(1, 0);
            Bench.due("MARKS of ARGUMENT 0", x.house.event(0, 2), m & 65535);
        }
    }

    private static void types() {
        Bench.sentence(16, "what 0 the number of its PARENT (NONE of Any), 1 how many FIELDS it has with those above, 2 how many METHODS stand in it. NONE for none such, another what.");
        Bench x = new Bench().right("class A : CastFault { field a int; method f() none { ret; } } class B { } class C : A { field a ref; static s int; virtual v() none { ret; } method g() none { ret; } }", 3);
        int[][] due = {{-1, 0, 0}, {0, 0, 0}, {1, 0, 0}, {1, 0, 0}, {1, 0, 0}, {1, 0, 0}, {1, 0, 0}, {6, 1, 1}, {0, 0, 0}, {7, 2, 2}};
        for (int c = 0; c < due.length; c++) {
            for (int what = 0; what < 3; what++) {
                Bench.due("type(" + c + ", " + what + ")", x.house.type(c, what), due[c][what]);
            }
            Bench.due("type(" + c + ", -1)", x.house.type(c, -1), -1);
            Bench.due("type(" + c + ", 3)", x.house.type(c, 3), -1);
            for (int what : FAR) {
                Bench.due("type(" + c + ", " + what + ")", x.house.type(c, what), -1);
            }
        }
        for (int what = 0; what < 3; what++) {
            Bench.due("type(-1, " + what + ")", x.house.type(-1, what), -1);
            Bench.due("type(10, " + what + ")", x.house.type(10, what), -1);
            Bench.due("type(18, " + what + ")", x.house.type(18, what), -1);
            for (int c : FAR) {
                Bench.due("type(" + c + ", " + what + ")", x.house.type(c, what), -1);
            }
        }
    }

    private static void firstClasses() {
        Bench.sentence(16, "CLASSES ahead of all others, without MEMBERS: Any, and behind it, with Any as PARENT, Fault; with Fault: NullFault, BoundsFault, SizeFault, DivideFault, CastFault. A CLASS without a PARENT has Any.");
        Bench x = new Bench();
        for (int times = 0; times < 2; times++) {
            for (int c = 0; c < 7; c++) {
                Bench.due("PARENT of " + c, x.house.type(c, 0), c == 0 ? -1 : c == 1 ? 0 : 1);
                Bench.due("FIELDS of " + c, x.house.type(c, 1), 0);
                Bench.due("METHODS of " + c, x.house.type(c, 2), 0);
            }
            x.right("class A { field a int; method f() none { ret; } } class B : Fault { field a int; } class C : A { }", 1);
            int[] parents = {0, 1, 7};
            for (int c = 7; c < 10; c++) {
                Bench.due("PARENT of " + c, x.house.type(c, 0), parents[c - 7]);
            }
        }
        String[] names = {"Any", "Fault", "NullFault", "BoundsFault", "SizeFault", "DivideFault", "CastFault"};
        for (int c = 0; c < 7; c++) {
            x.code("", "ref", "new " + names[c] + "; ret;").run(2, 0, 0, 2, 0, 0, 1, 1);
            Bench.due("class of a " + names[c], x.house.object(0, 0), c);
            x.right("class A : " + names[c] + " { }", 0);
            Bench.due("PARENT", x.house.type(7, 0), c);
        }
    }

    private static void mostOfTypes() {
        Bench.sentence(16, "NONE for none such, another what.");
        StringBuilder text = new StringBuilder();
        for (int c = 0; c < 12; c++) {
            text.append("class C").append(c).append(c == 0 ? "" : ":C" + (c - 1)).append("{").append(TextTest.many("field f% int;", 8));
            text.append(c == 11 ? TextTest.many("method m%()none{ret;}", 24) : "").append("}");
        }
        Bench x = new Bench().right(text.toString(), 24);
        for (int c = 0; c < 12; c++) {
            Bench.due("PARENT of " + c, x.house.type(7 + c, 0), c == 0 ? 0 : 6 + c);
            Bench.due("FIELDS of " + c, x.house.type(7 + c, 1), 8 * (c + 1));
            Bench.due("METHODS of " + c, x.house.type(7 + c, 2), c == 11 ? 24 : 0);
        }
        Bench.due("a 20th", x.house.type(19, 0), -1);
        x.right("class A { }", 0);
        Bench.due("one of the text before", x.house.type(8, 0), -1);
        Bench.due("FIELDS of the new one", x.house.type(7, 1), 0);
        Bench.due("METHODS of the new one", x.house.type(7, 2), 0);
    }

    private static void methods() {
        Bench.sentence(17, "what 0 its CLASS, 1 how many KINDS, 2 its RESULT (0 none, 1 int, 2 ref), 3 whether it is a virtual, 4 INSTRUCTIONS, 5 the most that its STACK has ahead of any that is come to. NONE for none such, another what.");
        Bench x = new Bench().right("class A { method f() none { ret; } virtual v(int, ref, int, int, int, int) int { push 1; push 2; pop; ret; push 3; } }"
            + " class B { method g(int) ref { null; throw; } virtual w() none { ret; } }", 4);
        int[][] due = {{7, 0, 0, 0, 1, 0}, {7, 6, 1, 1, 5, 2}, {8, 1, 2, 0, 2, 1}, {8, 0, 0, 1, 1, 0}};
        for (int m = 0; m < due.length; m++) {
            for (int what = 0; what < 6; what++) {
                Bench.due("method(" + m + ", " + what + ")", x.house.method(m, what), due[m][what]);
            }
            Bench.due("method(" + m + ", -1)", x.house.method(m, -1), -1);
            Bench.due("method(" + m + ", 6)", x.house.method(m, 6), -1);
            for (int what : FAR) {
                Bench.due("method(" + m + ", " + what + ")", x.house.method(m, what), -1);
            }
        }
        for (int what = 0; what < 6; what++) {
            Bench.due("method(-1, " + what + ")", x.house.method(-1, what), -1);
            Bench.due("method(4, " + what + ")", x.house.method(4, what), -1);
            Bench.due("method(23, " + what + ")", x.house.method(23, what), -1);
            for (int m : FAR) {
                Bench.due("method(" + m + ", " + what + ")", x.house.method(m, what), -1);
            }
        }
    }

    private static void mostOfMethods() {
        Bench.sentence(17, "the most that its STACK has ahead of any that is come to.");
        Bench x = new Bench().right("class A{" + TextTest.many("method m%()none{ret;}", 23) + "virtual v()ref{" + TextTest.many("null;", 16) + TextTest.many("pop;", 15) + "ret;}}", 24);
        Bench.due("the last METHOD", x.house.method(23, 0), 7);
        Bench.due("a 25th", x.house.method(24, 0), -1);
        Bench.due("the fullest STACK", x.house.method(23, 5), 16);
        Bench.due("an empty STACK", x.house.method(22, 5), 0);
        // The 16th VALUE is there behind the last INSTRUCTION that is come to, never ahead of one.
        x.code("", "none", TextTest.many("null; ", 15) + "ret;");
        Bench.due("15", x.house.method(0, 5), 15);
        x.code("", "none", "ret; push 1; push 2; push 3; pop;");
        Bench.due("what isn't come to", x.house.method(0, 5), 0);
        x.code("", "none", "a: ret; b: h: ret; try a b h Any;");
        Bench.due("what a try comes to", x.house.method(0, 5), 1);
        Bench.sentence(17, "method(m, 5) is 0 where no STACK has anything.");
        x.code("int, ref", "none", "x: inc 0 1; goto x;");
        Bench.due("method(0, 5)", x.house.method(0, 5), 0);
        x.code("", "int", "push 1; ret;");
        Bench.due("method(0, 5) with one ahead of ret", x.house.method(0, 5), 1);
    }

    private static void counts() {
        Bench.sentence(18, "0 CLASSES, 1 METHODS, 2 statics, 3 FLOWS, 4 bytes of the tape; NONE for another what.");
        Bench x = new Bench();
        int[] first = {7, 0, 0, 0, 0};
        for (int what = 0; what < 5; what++) {
            Bench.due("count(" + what + ") at first", x.house.count(what), first[what]);
        }
        StringBuilder text = new StringBuilder();
        for (int c = 0; c < 12; c++) {
            text.append("class C").append(c).append("{").append(c == 3 ? TextTest.many("static s% int;", 16) : "");
            text.append(c == 5 ? TextTest.many("method m%()none{ret;}", 24) : "").append("}");
        }
        x.right(text.toString(), 24);
        x.house.flows(-1);
        while (x.house.feed(0, 0, 0, 0, 0)) {
            continue;
        }
        int[] most = {19, 24, 16, 7, 4000};
        for (int what = 0; what < 5; what++) {
            Bench.due("the most of count(" + what + ")", x.house.count(what), most[what]);
        }
        Bench.due("count(-1)", x.house.count(-1), -1);
        Bench.due("count(5)", x.house.count(5), -1);
        for (int what : FAR) {
            Bench.due("count(" + what + ")", x.house.count(what), -1);
        }
        Bench.due("a text that isn't right", x.house.text(), -1);
        Bench.due("CLASSES behind it", x.house.count(0), 19);
        x.right("class A { }", 0);
        int[] last = {8, 0, 0, 7, 0};
        for (int what = 0; what < 5; what++) {
            Bench.due("count(" + what + ") of a small text", x.house.count(what), last[what]);
        }
    }
}
