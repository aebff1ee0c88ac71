/** Promises 10 to 15: RUNS, and what is asked of them. */
public final class RunTest {
    private static final int LEAST = -2147483648;
    private static final int MOST = 2147483647;

    public static void main(String[] args) {
        ends();
        argumentsOfRuns();
        stackCodes();
        whatLiesBelow();
        fullStacks();
        arithmetic();
        branches();
        marksOfOperands();
        sources();
        sinks();
        fields();
        statics();
        arrays();
        lengths();
        flowsOfArrays();
        flowsOfFields();
        calls();
        virtuals();
        castsAndClasses();
        faults();
        orderOfFaults();
        marksOfFaults();
        marksOfRefs();
        catching();
        catchingInCallers();
        codesLimit();
        framesLimit();
        cellsLimit();
        eventsLimit();
        wrongQuestions();
        fresh();
        Bench.finish();
    }

    private static void ends() {
        Bench x = new Bench();
        x.code("", "none", "ret;").run(0, 0, 0, 1, 0, 0, 0, 0);
        x.code("", "none", "push 7; mark 3; ret;").run(0, 0, 0, 3, 0, 0, 0, 0);
        x.code("", "int", "push 5; ret;").run(1, 5, 0, 2, 0, 0, 0, 0);
        x.code("", "int", "push - 2147483648; mark 65535; ret;").run(1, LEAST, 65535, 3);
        x.code("", "ref", "null; ret;").run(2, -1, 0, 2);
        x.code("", "ref", "new Any; new A; ret;").run(2, 1, 0, 3, 0, 0, 2, 2);
        x.code("", "int", "null; throw;").run(3, 0, 0, 2, 0, 0, 1, 1);
        x.code("", "none", "new A; throw;").run(3, 0, 0, 2, 0, 0, 1, 1);
        Bench.due("its class", x.house.object(0, 0), 7);
        Bench.due("run(1)", x.house.run(1), -10);
        Bench.due("run(-1)", x.house.run(-1), -10);
        Bench.due("run of the greatest int", x.house.run(MOST), -10);
        Bench.due("the latest RUN is left", x.house.result(0), 3);
        Bench.due("and its OBJECTS", x.house.object(0, 0), 7);
    }

    private static void argumentsOfRuns() {
        Bench x = new Bench().right("class A { method f(int, ref, int, int, int, int) int { load 0; load 2; push 10; mul; add; load 5; push 100; mul; add; load 1; ifnull n; push 9; ret; n: ret; }"
            + " virtual v(int, ref, int, int, int, int) ref { load 6; sink 1; load 1; sink 2; load 2; is Any; sink 3; load 0; ret; }"
            + " method g(ref) ref { load 0; ret; } }", 3);
        for (int i = 0; i < 7; i++) {
            x.house.argument(i, i + 1, 1 << i);
        }
        x.runOf(0, 1, 1 + 30 + 600, 1 | 4 | 32);
        x.runOf(1, 2, -1, 1, 9, 3, 0, 0, 0);
        Bench.due("local 6", x.house.event(0, 1), 7);
        Bench.due("its MARKS", x.house.event(0, 2), 64);
        Bench.due("local 1", x.house.event(1, 1), 2);
        Bench.due("its MARKS", x.house.event(1, 2), 2);
        Bench.due("null", x.house.event(2, 1), 0);
        Bench.due("its MARKS", x.house.event(2, 2), 4);
        x.runOf(2, 2, -1, 1, 2);
    }

    private static void stackCodes() {
        Bench x = new Bench();
        x.code("", "int", "push 3; mark 1; push 4; mark 2; swap; ret;").run(1, 3, 1);
        x.code("", "int", "push 3; mark 1; push 4; mark 2; swap; pop; ret;").run(1, 4, 2);
        x.code("", "int", "push 3; mark 1; dup; push 8; pop; add; ret;").run(1, 6, 1);
        x.code("", "int", "push 3; mark 1; store 15; push 1; load 15; ret;").run(1, 3, 1);
        x.code("", "int", "push 3; mark 6; store 2; inc 2 32767; inc 2 - 5; load 2; ret;").run(1, 32765, 6);
        x.code("", "int", "push 2147483647; store 2; inc 2 1; load 2; ret;").run(1, LEAST, 0);
    }

    /** An INSTRUCTION takes and leaves just what is told: what lies below is there behind it. */
    private static void whatLiesBelow() {
        String[] all = {"push 2; store 0", "push 2; pop", "dup; pop", "push 2; swap; store 1; store 2; load 1", "push 2; sink 1", "push 2; puts A s", "gets A s; pop",
            "push 2; clean 1; pop", "push 2; mark 1; pop", "push 2; neg; pop", "push 1; push 2; add; pop", "push 4; push 2; div; pop", "source 3; pop",
            "goto x; x:", "push 1; ifeq x; x:", "push 0; ifeq x; x:", "push 1; push 2; cmpeq x; x:", "null; ifnull x; x:", "null; ifsome x; x:", "null; null; same x; x:",
            "null; null; other x; x:", "new A; pop", "new A; push 2; put A a", "new A; get A a; pop", "new A; null; put A r", "new A; get A r; pop", "push 2; ints; pop",
            "push 2; refs; pop", "push 2; ints; push 1; push 1; iput", "push 2; ints; push 1; iget; pop", "push 2; refs; push 1; null; rput", "push 2; refs; push 1; rget; pop",
            "push 2; ints; length; pop", "call A n", "push 1; push 2; call A i; pop", "new A; push 1; virt A v; pop", "new A; is A; pop", "new A; as A; pop",
            "push 2; store 5; inc 5 1", "null; pop"};
        for (String codes : all) {
            Bench x = new Bench().right("class A { field a int; field r ref; static s int; method f() int { push 9; mark 2; push 7; mark 1; " + (codes + ";").replace(":;", ":")
                + " push 10; mul; add; ret; } method n() none { push 4; push 5; ret; } method i(int, int) int { load 0; load 1; push 3; ret; } virtual v(int) ref { load 1; load 0; null; ret; } }", 4);
            Bench.due("run with " + codes, x.house.run(0), 1);
            Bench.due("behind " + codes, x.house.result(1), 79);
            Bench.due("MARKS behind " + codes, x.house.result(2), 3);
        }
    }

    /** 16 VALUES and all locals in a METHOD that calls, also behind something caught. */
    private static void fullStacks() {
        String call = TextTest.many("push %; mark 1; ", 10) + "push 1; push 2; push 3; push 4; push 5; push 6; call A g; ";
        StringBuilder store = new StringBuilder();
        for (int k = 0; k < 16; k++) {
            store.append("push ").append(k).append("; store ").append(k).append("; ");
        }
        String text = "class A { method g(int, int, int, int, int, int) int { load 0; sink 0; load 1; sink 1; load 2; sink 2; load 3; sink 3; load 4; sink 4; load 5; sink 5; push 8; store 15; push 77; ret; }"
            + " method f() int { " + store + "a: null; throw; b: h: pop; " + call + "add; load 15; mul; ret; try a b h Any; } }";
        Bench x = new Bench().right(text, 2);
        x.runOf(1, 1, (77 + 9) * 15, 1);
        for (int i = 0; i < 6; i++) {
            Bench.due("KIND " + i, x.house.event(i, 1), i + 1);
        }
        Bench.due("the most", x.house.method(1, 5), 16);
    }

    private static void arithmetic() {
        arithmetic("add", 7, 2, 9);
        arithmetic("add", MOST, 1, LEAST);
        arithmetic("sub", 7, 2, 5);
        arithmetic("sub", LEAST, 1, MOST);
        arithmetic("mul", 7, -2, -14);
        arithmetic("mul", 65536, 65536, 0);
        arithmetic("mul", 123456789, 987654321, -67153019);
        arithmetic("div", 7, 2, 3);
        arithmetic("div", -7, 2, -3);
        arithmetic("div", 7, -2, -3);
        arithmetic("div", LEAST, -1, LEAST);
        arithmetic("div", 5, -1, -5);
        arithmetic("rem", 7, 2, 1);
        arithmetic("rem", -7, 2, -1);
        arithmetic("rem", 7, -2, 1);
        arithmetic("rem", LEAST, -1, 0);
        arithmetic("and", 12, 10, 8);
        arithmetic("or", 12, 10, 14);
        arithmetic("xor", 12, 10, 6);
        arithmetic("shl", 7, 2, 28);
        arithmetic("shl", 1, 33, 2);
        arithmetic("shl", 1, -1, LEAST);
        arithmetic("shr", 7, 2, 1);
        arithmetic("shr", -8, 1, -4);
        arithmetic("shr", -8, 32, -8);
        arithmetic("ushr", -8, 1, 2147483644);
        arithmetic("ushr", -1, 63, 1);
        Bench x = new Bench();
        x.code("int", "int", "load 0; neg; ret;");
        x.house.argument(0, 5, 9);
        x.run(1, -5, 9);
        x.house.argument(0, LEAST, 9);
        x.run(1, LEAST, 9);
    }

    /** By ARGUMENTS, and the MARKS of both. */
    private static void arithmetic(String code, int left, int right, int due) {
        Bench x = new Bench().code("int, int", "int", "load 0; load 1; " + code + "; ret;");
        x.house.argument(0, left, 5);
        x.house.argument(1, right, 8);
        x.run(1, due, 13, 4);
    }

    private static void branches() {
        String[] names = {"eq", "ne", "lt", "ge", "gt", "le"};
        boolean[][] goes = {{false, true, true, false, false, true}, {true, false, false, true, false, true}, {false, true, false, true, true, false}};
        for (int i = 0; i < 6; i++) {
            for (int order = 0; order < 3; order++) {
                Bench x = new Bench().code("int, int", "int", "load 0; load 1; cmp" + names[i] + " x; push 0; ret; x: push 1; ret;");
                x.house.argument(0, order == 0 ? LEAST : 4, 1);
                x.house.argument(1, order == 2 ? LEAST : 4, 1);
                x.run(1, goes[order][i] ? 1 : 0, 0, 5);
                x.code("int", "int", "load 0; if" + names[i] + " x; push 0; ret; x: push 1; ret;");
                x.house.argument(0, order - 1, 1);
                x.run(1, goes[order][i] ? 1 : 0, 0, 4);
            }
        }
        Bench x = new Bench();
        x.code("", "int", "goto y; x: push 1; ret; y: push 2; ret;").run(1, 2, 0, 3);
        x.code("", "int", "null; ifnull x; push 0; ret; x: push 1; ret;").run(1, 1);
        x.code("", "int", "null; ifsome x; push 0; ret; x: push 1; ret;").run(1, 0);
        x.code("", "int", "new A; ifnull x; push 0; ret; x: push 1; ret;").run(1, 0);
        x.code("", "int", "new A; ifsome x; push 0; ret; x: push 1; ret;").run(1, 1);
        x.code("", "int", "new A; dup; same x; push 0; ret; x: push 1; ret;").run(1, 1);
        x.code("", "int", "new A; dup; other x; push 0; ret; x: push 1; ret;").run(1, 0);
        x.code("", "int", "new A; new A; same x; push 0; ret; x: push 1; ret;").run(1, 0);
        x.code("", "int", "new A; null; other x; push 0; ret; x: push 1; ret;").run(1, 1);
        x.code("", "int", "null; null; same x; push 0; ret; x: push 1; ret;").run(1, 1);
    }

    private static void marksOfOperands() {
        Bench x = new Bench();
        x.code("", "int", "push 1; mark 65535; clean 255; mark 3; ret;").run(1, 1, 65280 | 3);
        x.code("", "int", "push 1; mark 6; clean 0; mark 0; ret;").run(1, 1, 6);
        x.code("", "int", "push 1; mark 6; neg; push 2; mark 8; mul; push 3; xor; ret;").run(1, -3, 14);
        // What a branch asks leaves no MARKS.
        x.code("", "int", "source 1; ifeq x; push 0; ret; x: push 1; ret;").run(1, 1, 0);
    }

    private static void sources() {
        Bench x = new Bench().code("", "int", "source 15; source 0; sub; ret;");
        x.house.input(15, 7);
        x.house.input(0, -2);
        x.run(1, 9, 32769);
        x.house.input(0, 1);
        x.run(1, 6, 32769);
        x.code("", "int", "source 9; ret;").run(1, 0, 512);
    }

    private static void sinks() {
        Bench x = new Bench().code("", "none", "push 4; sink 3; source 2; sink 3; source 5; mark 1; sink 15; source 2; sink 4; ret;");
        x.house.input(2, -9);
        x.house.policy(3, 4 + 8);
        x.house.policy(15, 1);
        x.house.policy(4, 65535 - 4);
        x.run(0, 0, 0, 10, 4, 2, 0, 0);
        x.house.policy(3, 0);
        int[][] due = {{3, 4, 0, 0}, {3, -9, 4, 1}, {15, 0, 33, 1}, {4, -9, 4, 0}};
        for (int i = 0; i < 4; i++) {
            for (int what = 0; what < 4; what++) {
                Bench.due("event(" + i + ", " + what + ")", x.house.event(i, what), due[i][what]);
            }
        }
        Bench.due("event(4, 0)", x.house.event(4, 0), -1);
        Bench.due("event(-1, 0)", x.house.event(-1, 0), -1);
        Bench.due("event(0, 4)", x.house.event(0, 4), -1);
        Bench.due("event(0, -1)", x.house.event(0, -1), -1);
        Bench.due("event of the greatest int", x.house.event(MOST, 0), -1);
        x.run(0, 0, 0, 10, 4, 1, 0, 0);
    }

    private static void fields() {
        Bench x = new Bench().right("class A { field a int; field b ref; } class B : A { field a int; field c ref; field d int; }"
            + " class C { method f() ref { new B; store 0; load 0; push 1; mark 1; put A a; load 0; push 2; mark 2; put B a;"
            + " load 0; load 0; put B b; load 0; push 3; put B d; load 0; get A a; load 0; get B a; sub; sink 0; load 0; get B b; ret; } }", 1);
        x.run(2, 0, 0, 25, 1, 0, 1, 6);
        Bench.due("event", x.house.event(0, 1), -1);
        Bench.due("its MARKS", x.house.event(0, 2), 3);
        Bench.due("class", x.house.object(0, 0), 8);
        Bench.due("FIELDS", x.house.object(0, 1), 5);
        Bench.due("MARKS of no LENGTH", x.house.object(0, 2), 0);
        int[][] due = {{1, 1}, {0, 0}, {2, 2}, {-1, 0}, {3, 0}};
        for (int k = 0; k < 5; k++) {
            Bench.due("slot(0, " + k + ", 0)", x.house.slot(0, k, 0), due[k][0]);
            Bench.due("slot(0, " + k + ", 1)", x.house.slot(0, k, 1), due[k][1]);
        }
        Bench.due("slot(0, 5, 0)", x.house.slot(0, 5, 0), -1);
        Bench.due("slot(0, -1, 0)", x.house.slot(0, -1, 0), -1);
        Bench.due("slot(1, 0, 0)", x.house.slot(1, 0, 0), -1);
        Bench.due("slot(-1, 0, 1)", x.house.slot(-1, 0, 1), -1);
        Bench.due("slot(0, 0, 2)", x.house.slot(0, 0, 2), -1);
        Bench.due("slot(0, 0, -1)", x.house.slot(0, 0, -1), -1);
        Bench.due("slot of the greatest ints", x.house.slot(MOST, MOST, 0), -1);
    }

    private static void statics() {
        Bench x = new Bench().right("class A { static s int; static r ref; } class B : A { static s int;"
            + " method f() int { gets B s; sink 1; push 4; mark 8; puts A s; push 5; puts B s; new A; pop; new A; puts B r; gets A s; ret; } }", 1);
        Bench.due("stat without a RUN", x.house.stat(0, 0), -1);
        x.run(1, 4, 8);
        int[][] due = {{4, 8}, {1, 0}, {5, 0}};
        for (int k = 0; k < 3; k++) {
            Bench.due("stat(" + k + ", 0)", x.house.stat(k, 0), due[k][0]);
            Bench.due("stat(" + k + ", 1)", x.house.stat(k, 1), due[k][1]);
        }
        x.run(1, 4, 8);
        Bench.due("a RUN begins with statics 0", x.house.event(0, 1), 0);
        Bench.due("stat(3, 0)", x.house.stat(3, 0), -1);
        Bench.due("stat(-1, 0)", x.house.stat(-1, 0), -1);
        Bench.due("stat(0, 2)", x.house.stat(0, 2), -1);
        Bench.due("stat(0, -1)", x.house.stat(0, -1), -1);
        x.right("class A { static s int; static r ref; method f() none { ret; } }", 1).run(0);
        for (int k = 0; k < 2; k++) {
            Bench.due("at first", x.house.stat(k, 0), -k);
            Bench.due("without MARKS", x.house.stat(k, 1), 0);
        }
        x.right("class A { static r ref; method f() none { ret; } method g() none { new A; mark1: puts A r; ret; } }", 2);
        x.runOf(1, 0);
        Bench.due("the static", x.house.stat(0, 0), 0);
        x.runOf(0, 0);
        Bench.due("null", x.house.stat(0, 0), -1);
    }

    private static void arrays() {
        Bench x = new Bench().code("", "ref", "push 3; mark 4; ints; store 0; load 0; push 2; mark 16; push 9; mark 1; iput;"
            + " push 2; refs; store 1; load 1; push 0; load 0; rput; load 0; push 2; iget; sink 1; load 1; push 0; rget; ret;");
        x.run(2, 0, 0, 25, 1, 0, 2, 7);
        Bench.due("class", x.house.object(0, 0), -2);
        Bench.due("length", x.house.object(0, 1), 3);
        Bench.due("MARKS of the LENGTH", x.house.object(0, 2), 4);
        Bench.due("class", x.house.object(1, 0), -3);
        Bench.due("length", x.house.object(1, 1), 2);
        Bench.due("MARKS of the LENGTH", x.house.object(1, 2), 0);
        Bench.due("object(2, 0)", x.house.object(2, 0), -1);
        Bench.due("object(-1, 0)", x.house.object(-1, 0), -1);
        Bench.due("object(0, 3)", x.house.object(0, 3), -1);
        Bench.due("object(0, -1)", x.house.object(0, -1), -1);
        int[][] due = {{0, 0, 0, 0}, {0, 1, 0, 0}, {0, 2, 9, 1}, {1, 0, 0, 0}, {1, 1, -1, 0}};
        for (int[] row : due) {
            Bench.due("slot value", x.house.slot(row[0], row[1], 0), row[2]);
            Bench.due("slot MARKS", x.house.slot(row[0], row[1], 1), row[3]);
        }
        Bench.due("the element's MARKS", x.house.event(0, 2), 1);
        x.code("", "ref", "push 0; ints; ret;").run(2, 0, 0, 3, 0, 0, 1, 1);
        x.code("", "ref", "new A; is Any; refs; ret;").run(2, 1, 0, 4, 0, 0, 2, 3);
    }

    private static void lengths() {
        Bench x = new Bench().code("", "int", "source 3; ints; length; ret;");
        x.house.input(3, 6);
        x.run(1, 6, 8);
        x.code("", "int", "source 3; refs; length; ret;").run(1, 6, 8);
    }

    private static void flowsOfArrays() {
        String ints = "class A { "
            + "method g() int { push 2; mark 64; ints; store 0; load 0; push 1; mark 2; push 5; mark 4; iput; load 0; push 1; mark 16; iget; sink 1; load 0; length; ret; } }";
        int[] elements = {4, 6, 4, 6, 4, 6, 4, 6};
        int[] reads = {4, 22, 4, 22, 4, 22, 4, 22};
        for (int flows = 0; flows < 8; flows++) {
            Bench x = new Bench().right(ints, 1);
            x.house.flows(flows);
            x.run(1, 2, 64);
            Bench.due("element with FLOWS " + flows, x.house.slot(0, 1, 1), elements[flows]);
            Bench.due("read with FLOWS " + flows, x.house.event(0, 2), reads[flows]);
        }
        // The ref comes out of an array of refs by an index with MARK 1, so that with flow 1 it has it.
        String refs = "push 2; refs; store 0; load 0; push 0; push 3; mark 8; ints; rput; load 0; push 0; mark 1; rget; store 1;"
            + " load 1; push 1; push 5; mark 4; iput; load 1; push 1; iget; sink 1; load 1; length; sink 2; load 0; push 1; load 1; rput; ret;";
        int[] withFlows = {0, 1, 3, 5, 7};
        int[][] due = {{4, 4, 8, 0}, {4, 4, 8, 1}, {4, 5, 9, 1}, {5, 5, 8, 1}, {5, 5, 9, 1}};
        for (int i = 0; i < due.length; i++) {
            Bench x = new Bench().code("", "none", refs);
            x.house.flows(withFlows[i]);
            x.run(0);
            Bench.due("iput with FLOWS " + withFlows[i], x.house.slot(1, 1, 1), due[i][0]);
            Bench.due("iget with FLOWS " + withFlows[i], x.house.event(0, 2), due[i][1]);
            Bench.due("length with FLOWS " + withFlows[i], x.house.event(1, 2), due[i][2]);
            Bench.due("rput with FLOWS " + withFlows[i], x.house.slot(0, 1, 1), due[i][3]);
        }
    }

    private static void flowsOfFields() {
        // With flow 1 the ref that rget reads has the index's MARK 1.
        String text = "class A { field a int; field r ref; method f() none { push 1; refs; store 0; load 0; push 0; new A; rput;"
            + " load 0; push 0; mark 1; rget; store 1; load 1; push 7; mark 2; put A a; load 1; get A a; sink 1; load 1; null; put A r; load 1; get A r; is Any; sink 2; ret; } }";
        int[][] due = {{2, 2, 0, 0}, {2, 2, 0, 0}, {2, 2, 0, 0}, {2, 3, 0, 1}, {2, 2, 0, 0}, {3, 3, 1, 1}, {2, 2, 0, 0}, {3, 3, 1, 1}};
        for (int flows = 0; flows < 8; flows++) {
            Bench x = new Bench().right(text, 1);
            x.house.flows(flows);
            x.run(0);
            Bench.due("put with FLOWS " + flows, x.house.slot(1, 0, 1), due[flows][0]);
            Bench.due("get with FLOWS " + flows, x.house.event(0, 2), due[flows][1]);
            Bench.due("put of a ref with FLOWS " + flows, x.house.slot(1, 1, 1), due[flows][2]);
            Bench.due("get of a ref with FLOWS " + flows, x.house.event(1, 2), due[flows][3]);
        }
    }

    private static void calls() {
        Bench x = new Bench().right("class A { method f(int, int) int { push 9; store 2; load 0; load 1; sub; ret; } method n() none { push 3; ret; } }"
            + " class B : A { method g() int { push 100; store 2; push 50; push 7; mark 1; push 2; mark 2; call B f; call A n; add; load 2; add; ret; }"
            + " method h() ref { call B k; ret; } method k() ref { new B; new A; ret; } }", 5);
        x.runOf(2, 1, 155, 3, 21);
        x.runOf(3, 2, 1, 0, 5, 0, 0, 2, 2);
        x.right("class A { method f() int { push 1; ret; } } class B : A { virtual f() int { push 2; ret; } method g() int { call B f; ret; } }", 3);
        x.runOf(2, 1, 1);
        x.right("class A { method f() int { push 1; ret; } } class B : A { method f() int { push 2; ret; } } class C : B { method g() int { call C f; push 10; mul; call A f; add; ret; } }", 3);
        x.runOf(2, 1, 21);
    }

    private static void virtuals() {
        Bench x = new Bench().right("class A { virtual v(int, int) int { load 1; load 2; sub; ret; } } class B : A { } class C : B { virtual v(int, int) int { load 2; load 1; sub; ret; } }"
            + " class D : C { method v() none { ret; } } class E { method f() none { push 9; mark 1; push 2; mark 2; call E g; ret; }"
            + " method g(int, int) none { new A; load 0; load 1; virt A v; sink 0; new B; load 0; load 1; virt A v; sink 1; new C; load 0; load 1; virt B v; sink 2; new D; load 0; load 1; virt D v; sink 3; ret; } }", 5);
        x.runOf(3, 0);
        int[] due = {7, 7, -7, -7};
        for (int i = 0; i < 4; i++) {
            Bench.due("the METHOD of the OBJECT's class, " + i, x.house.event(i, 1), due[i]);
            Bench.due("MARKS", x.house.event(i, 2), 3);
        }
        x.right("class A { field a int; virtual v() ref { load 0; ret; } method f() ref { new A; new A; virt A v; ret; } }", 2);
        x.runOf(1, 2, 1);
    }

    private static void castsAndClasses() {
        Bench x = new Bench().right("class A { } class B : A { } class C { method f() none { new B; store 0;"
            + " load 0; is Any; sink 0; load 0; is A; sink 1; load 0; is B; sink 2; load 0; is C; sink 3; load 0; is Fault; sink 4; null; is Any; sink 5;"
            + " push 1; ints; is Any; sink 6; push 1; refs; is A; sink 7; new NullFault; is Fault; sink 8; new Any; is A; sink 9; ret; }"
            + " method g() ref { null; as C; pop; new B; as A; as B; as Any; pop; push 2; ints; as Any; ret; } method h(ref) int { load 0; is C; ret; } method k(ref) ref { load 0; as C; ret; } }", 4);
        x.runOf(0, 0);
        int[] due = {1, 1, 1, 0, 0, 0, 1, 0, 1, 0};
        for (int i = 0; i < due.length; i++) {
            Bench.due("is " + i, x.house.event(i, 1), due[i]);
        }
        x.runOf(1, 2, 1);
        x.house.argument(0, 0, 77);
        x.runOf(2, 1, 0, 77);
        x.runOf(3, 2, -1, 77);
    }

    private static void thrown(String items, int type) {
        Bench x = new Bench().right("class A { field a int; field r ref; virtual v(int) none { ret; } method f() none { " + items + " } } class B : A { field b int; virtual v(int) none { ret; } virtual w() none { ret; } }", 4);
        Bench.due("run of " + items, x.house.run(1), 3);
        Bench.due("class of " + items, x.house.object(x.house.result(1), 0), type);
        Bench.due("FIELDS of it", x.house.object(x.house.result(1), 1), 0);
        Bench.due("MARKS of no LENGTH", x.house.object(x.house.result(1), 2), 0);
        Bench.due("the last one made", x.house.result(1), x.house.result(6) - 1);
    }

    private static void faults() {
        thrown("null; get A a; ret;", 2);
        thrown("null; push 1; put A a; ret;", 2);
        thrown("null; push 1; virt A v; ret;", 2);
        thrown("null; push 1; iget; ret;", 2);
        thrown("null; push 1; rget; ret;", 2);
        thrown("null; push 1; push 1; iput; ret;", 2);
        thrown("null; push 1; null; rput; ret;", 2);
        thrown("null; length; ret;", 2);
        thrown("null; throw;", 2);
        thrown("push 2; ints; push 2; iget; ret;", 3);
        thrown("push 2; ints; push - 1; iget; ret;", 3);
        thrown("push 2; ints; push - 2147483648; push 1; iput; ret;", 3);
        thrown("push 2; refs; push 2147483647; rget; ret;", 3);
        thrown("push 0; refs; push 0; null; rput; ret;", 3);
        thrown("push - 1; ints; ret;", 4);
        thrown("push - 2147483648; refs; ret;", 4);
        thrown("push 1; push 0; div; ret;", 5);
        thrown("push 0; push 0; rem; ret;", 5);
        thrown("new Any; get A a; ret;", 6);
        thrown("new A; get B a; ret;", 6);
        thrown("push 1; ints; get A a; ret;", 6);
        thrown("new A; push 1; put B b; ret;", 6);
        thrown("new Any; push 1; virt A v; ret;", 6);
        thrown("new A; push 1; virt B v; ret;", 6);
        thrown("push 1; refs; push 1; virt A v; ret;", 6);
        thrown("new A; push 0; iget; ret;", 6);
        thrown("push 1; refs; push 0; iget; ret;", 6);
        thrown("push 1; ints; push 0; rget; ret;", 6);
        thrown("push 1; refs; push 0; push 1; iput; ret;", 6);
        thrown("push 1; ints; push 0; null; rput; ret;", 6);
        thrown("new A; length; ret;", 6);
        thrown("new Any; length; ret;", 6);
        thrown("new Any; push 0; rget; ret;", 6);
        thrown("new A; as B; ret;", 6);
        thrown("push 1; ints; as A; ret;", 6);
        thrown("new Any; as Fault; ret;", 6);
    }

    /** null is asked first, then what the ref is, then the index. */
    private static void orderOfFaults() {
        thrown("push 1; refs; push 9; iget; ret;", 6);
        thrown("new A; push - 9; null; rput; ret;", 6);
        thrown("null; push - 9; push 1; iput; ret;", 2);
    }

    private static void marked(String items, int marks) {
        for (int flows = 0; flows < 8; flows += 7) {
            Bench x = new Bench().right("class A { field a int; virtual v(int, ref) none { ret; } method f(ref, int, int) none { " + items + " } virtual w(int, int) none { ret; } }", 3);
            x.house.flows(flows);
            x.house.argument(0, 0, 1);
            x.house.argument(1, 0, 2);
            x.house.argument(2, 0, 4);
            Bench.due("run of " + items, x.house.run(1), 3);
            Bench.due("MARKS of what " + items + " throws", x.house.result(2), marks);
        }
    }

    private static void marksOfFaults() {
        marked("load 0; get A a; ret;", 1);
        marked("load 0; load 1; put A a; ret;", 3);
        marked("load 0; load 1; iget; ret;", 3);
        marked("load 0; load 1; rget; ret;", 3);
        marked("load 0; load 1; load 2; iput; ret;", 7);
        marked("load 0; load 1; null; rput; ret;", 3);
        marked("load 0; length; ret;", 1);
        marked("load 0; throw;", 1);
        marked("load 1; load 2; div; ret;", 6);
        marked("push 5; load 2; rem; ret;", 4);
        marked("load 1; push 1; sub; ints; ret;", 2);
        marked("load 0; load 2; load 0; virt A v; ret;", 5);
        marked("load 0; load 1; null; virt A v; ret;", 3);
        marked("load 0; load 1; load 2; virt A w; ret;", 7);
        marked("null; push 1; load 2; virt A w; ret;", 4);
        marked("push 1; mark 8; pop; push 2; ints; load 1; push 5; add; iget; ret;", 2);
        marked("new A; as Fault; ret;", 0);
        marked("new A; load 1; load 0; virt A v; load 0; throw;", 1);
        marked("new A; load 2; iget; ret;", 4);
    }

    /** A ref that is no null gets MARKS by an index that flows. */
    private static void marksOfRefs() {
        String make = "class A { field a int; virtual v(int) none { ret; } } class B { method m() ref { push 1; refs; dup; push 0; new Any; rput; push 0; mark 4; rget; ret; } method f() none { push 1; mark 1; call B m; ";
        String[] rest = {"throw", "as A; ret", "get A a; ret", "push 2; mark 2; put A a; ret", "push 2; mark 2; virt A v; ret", "length; ret", "push 0; mark 2; iget; ret", "push 0; push 2; mark 2; iput; ret"};
        int[] due = {4, 4, 4, 6, 6, 4, 6, 6};
        int[] types = {0, 6, 6, 6, 6, 6, 6, 6};
        for (int i = 0; i < rest.length; i++) {
            Bench x = new Bench().right(make + rest[i] + "; } }", 3);
            x.house.flows(1);
            Bench.due("run of " + rest[i], x.house.run(2), 3);
            Bench.due("MARKS of " + rest[i], x.house.result(2), due[i]);
            Bench.due("class of " + rest[i], x.house.object(x.house.result(1), 0), types[i]);
        }
        Bench x = new Bench().right(make + "dup; is Any; sink 1; is A; sink 2; ret; } }", 3);
        x.house.flows(1);
        x.runOf(2, 0);
        Bench.due("is", x.house.event(0, 2), 4);
        Bench.due("is", x.house.event(1, 2), 4);
    }

    private static void catching() {
        Bench x = new Bench();
        x.code("int", "int", "a: push 8; push 1; load 0; div; b: ret; h: is DivideFault; ret; try a b h DivideFault;");
        x.house.argument(0, 0, 5);
        x.run(1, 1, 5, 6, 0, 0, 1, 1);
        x.house.argument(0, 1, 5);
        x.run(1, 1, 5, 5, 0, 0, 0, 0);
        // The first try in the order of the text, of whose class it is.
        String items = "a: null; throw; b: ret; g: pop; push 1; sink 1; ret; h: pop; push 2; sink 1; ret; ";
        caught(items + "try a b g NullFault; try a b h Any;", 1);
        caught(items + "try a b h Any; try a b g NullFault;", 2);
        caught(items + "try a b g CastFault; try a b h Fault;", 2);
        caught(items + "try a b g A; try a b h NullFault;", 2);
        caught("try a b h Fault; " + items + "try a b g NullFault;", 2);
        // Only where the instruction lies in it: not ahead of from, ahead of to.
        caught("a: null; t: throw; b: ret; g: pop; push 1; sink 1; ret; h: pop; push 2; sink 1; ret; try a t g Any; try t b h Any;", 2);
        caught("goto a; c: ret; " + items + "try c a g Any; try a b h Any;", 2);
        // What is thrown is the ref alone on the STACK, with its MARKS; ARRAYS are caught by Any.
        x.code("", "int", "a: push 5; push 6; push 7; push 3; mark 9; ints; throw; b: h: length; ret; try a b h Any;").run(1, 3, 9, 9, 0, 0, 1, 4);
        x.code("", "int", "a: push 3; ints; throw; b: h: length; ret; try a b h Fault;").run(3, 0, 0, 3);
        x.code("", "int", "a: push 3; ints; throw; b: h: length; ret; try a b h A; try a b g Any; g: pop; push 4; ret;").run(1, 4, 0, 6);
        x.code("", "int", "a: new A; throw; b: h: is A; ret; try a b h A;").run(1, 1);
        // A try may catch what its own code throws again.
        x.code("", "int", "push 0; store 0; a: null; h: inc 0 1; load 0; push 5; cmpge x; throw; b: x: load 0; ret; try a b h Any;").run(1, 5);
        // Locals are as they were.
        x.code("", "int", "push 1; store 0; a: push 2; store 0; null; throw; b: h: pop; load 0; ret; try a b h Any;").run(1, 2);
    }

    private static void caught(String items, int due) {
        Bench x = new Bench().code("", "none", items);
        Bench.due("run of " + items, x.house.run(0), 0);
        Bench.due("who caught it: " + items, x.house.event(0, 1), due);
    }

    private static void catchingInCallers() {
        Bench x = new Bench().right("class A { method f(int) none { load 0; push 0; div; ret; } method g(int) none { a: push 3; pop; load 0; call A f; b: ret; h: throw; try a b h CastFault; }"
            + " method m(int) int { push 7; store 1; a: push 1; load 0; call A g; pop; b: push 0; ret; h: is DivideFault; load 1; add; ret; try b h h Any; try a b h DivideFault; } }", 3);
        x.house.argument(0, 5, 3);
        x.runOf(2, 1, 8, 3, 16, 0, 0, 1, 1);
        x.runOf(1, 3, 0, 3, 7, 0, 0, 1, 1);
        x.right("class A { virtual v(int) none { null; throw; } method f() int { new A; a: push 1; virt A v; b: push 1; ret; h: pop; push 2; ret; try a b h Any; } }", 2);
        x.runOf(1, 1, 2, 0, 8);
        // Frames that were left make room again.
        x.right("class A { method d(int) none { load 0; ifeq t; load 0; push 1; sub; call A d; ret; t: null; throw; }"
            + " method f() int { push 0; store 0; a: push 22; call A d; b: push 0; ret; h: pop; inc 0 1; load 0; push 3; cmplt a; load 0; ret; try a b h Any; } }", 2);
        x.runOf(1, 1, 3);
    }

    private static void codesLimit() {
        Bench x = new Bench();
        x.code("", "none", "x: goto x;").run(4, 0, 0, 20000, 0, 0, 0, 0);
        // 5 ahead of the loop's n turns of 3, and behind them what stands for %, load and ret.
        String items = "load 0; store 1; goto y; x: inc 1 - 1; y: load 1; ifgt x; %load 0; ret;";
        x.code("int", "int", items.replace("%", ""));
        x.house.argument(0, 6664, 1);
        x.run(1, 6664, 1, 3 + 2 + 6664 * 3 + 2);
        x.house.argument(0, 6665, 1);
        x.run(4, 0, 0, 20000);
        x.code("int", "int", items.replace("%", "push 1; "));
        x.house.argument(0, 6664, 1);
        x.run(1, 6664, 1, 20000);
        x.code("int", "int", items.replace("%", "push 1; pop; "));
        x.house.argument(0, 6664, 1);
        x.run(4, 0, 0, 20000);
        x.code("int", "int", items.replace("%", "push 1; mark 7; sink 3; "));
        x.house.argument(0, 6664, 1);
        x.run(4, 0, 0, 20000, 1);
        // An INSTRUCTION that throws counts, the 20000th, too.
        x.code("int", "int", items.replace("%", "null; throw; "));
        x.house.argument(0, 6664, 1);
        x.run(3, 0, 0, 19999);
        x.code("int", "int", items.replace("%", "null; dup; throw; "));
        x.house.argument(0, 6664, 1);
        x.run(3, 0, 0, 20000);
        x.code("int", "int", items.replace("%", "null; dup; dup; throw; "));
        x.house.argument(0, 6664, 1);
        x.run(4, 0, 0, 20000, 0, 0, 0, 0);
    }

    private static void framesLimit() {
        Bench x = new Bench().right("class A { method d(int) int { load 0; ifle x; load 0; push 1; sub; call A d; push 1; add; ret; x: push 0; ret; } }", 1);
        x.house.argument(0, 23, 1);
        x.run(1, 23, 0, 23 * 9 + 4);
        x.house.argument(0, 24, 1);
        x.run(5, 0, 0, 23 * 6 + 5);
        // The null is asked first.
        x.right("class A { virtual v(int) int { load 1; ifle x; new A; load 1; push 1; sub; virt A v; ret; x: null; push 1; virt A v; ret; } }", 1);
        x.house.argument(1, 23, 1);
        x.run(3, 23, 0, 23 * 7 + 5, 0, 0, 24, 24);
    }

    private static void cellsLimit() {
        Bench x = new Bench();
        x.code("", "none", "push 2999; ints; ret;").run(0, 0, 0, 3, 0, 0, 1, 3000);
        x.code("", "none", "push 3000; ints; ret;").run(6, 0, 0, 1, 0, 0, 0, 0);
        x.code("", "none", "push 2147483647; refs; ret;").run(6, 0, 0, 1, 0, 0, 0, 0);
        x.code("", "none", "push 2998; ints; new A; ret;").run(0, 0, 0, 4, 0, 0, 2, 3000);
        x.code("", "none", "push 2999; ints; new A; ret;").run(6, 0, 0, 2, 0, 0, 1, 3000);
        x.code("", "none", "push 2999; ints; null; throw;").run(6, 0, 0, 3, 0, 0, 1, 3000);
        x.code("", "none", "push 2998; ints; null; throw;").run(3, 1, 0, 4, 0, 0, 2, 3000);
        x.code("", "none", "a: push 2999; ints; push 3000; iget; ret; b: h: ret; try a b h Any;").run(6, 0, 0, 3, 0, 0, 1, 3000);
        x.code("", "none", "push 2999; ints; throw;").run(3, 0, 0, 3, 0, 0, 1, 3000);
        x.code("", "none", "push 2999; ints; push - 1; ints; ret;").run(6, 0, 0, 3);
        x.code("", "none", "x: new A; pop; goto x;").run(6, 0, 0, 9000, 0, 0, 3000, 3000);
        x.right("class A { field a int; field b ref; } class B : A { field c int; method f() none { x: new B; pop; goto x; } }", 1);
        x.run(6, 0, 0, 750 * 3, 0, 0, 750, 3000);
        Bench.due("the last OBJECT", x.house.object(749, 1), 3);
        Bench.due("its ref FIELD", x.house.slot(749, 1, 0), -1);
        Bench.due("none behind it", x.house.object(750, 0), -1);
    }

    private static void eventsLimit() {
        Bench x = new Bench().code("", "none", "push 0; store 0; x: load 0; sink 5; inc 0 1; load 0; push 500; cmplt x; ret;");
        x.run(0, 0, 0, 2 + 500 * 6 + 1, 500, 0);
        Bench.due("event(499, 1)", x.house.event(499, 1), 499);
        x.code("", "none", "push 0; store 0; x: load 0; mark 1; sink 5; inc 0 1; goto x;");
        x.house.policy(5, 1);
        x.run(7, 0, 0, 2 + 500 * 5 + 2, 500, 500, 0, 0);
        Bench.due("event(500, 1)", x.house.event(500, 1), -1);
    }

    private static void wrongQuestions() {
        Bench x = new Bench().code("", "int", "new A; pop; push 3; sink 1; push 3; ret;");
        x.run(1, 3, 0, 6, 1, 0, 1, 1);
        Bench.due("result(8)", x.house.result(8), -1);
        Bench.due("result(-1)", x.house.result(-1), -1);
        Bench.due("result of the least int", x.house.result(LEAST), -1);
        Bench.due("slot of an OBJECT without FIELDS", x.house.slot(0, 0, 0), -1);
        Bench.due("stat without statics", x.house.stat(0, 0), -1);
    }

    /** A RUN begins anew. */
    private static void fresh() {
        Bench x = new Bench().right("class A { static s int; field r ref; field i int; method f() none { push 4; ints; dup; push 1; push 9; mark 3; iput; pop; new A; dup; push 5; put A i; pop; gets A s; sink 1; push 3; puts A s; ret; }"
            + " method g() none { ret; } method h() none { push 6; refs; pop; ret; } }", 3);
        for (int i = 0; i < 2; i++) {
            x.runOf(0, 0, 0, 0, 18, 1, 0, 2, 8);
            Bench.due("the static was 0", x.house.event(0, 1), 0);
            Bench.due("the element", x.house.slot(0, 1, 0), 9);
        }
        x.runOf(2, 0, 0, 0, 4, 0, 0, 1, 7);
        for (int k = 0; k < 6; k++) {
            Bench.due("a new element is null", x.house.slot(0, k, 0), -1);
            Bench.due("without MARKS", x.house.slot(0, k, 1), 0);
        }
        x.runOf(1, 0, 0, 0, 1, 0, 0, 0, 0);
        Bench.due("no OBJECTS", x.house.object(0, 0), -1);
        Bench.due("no EVENTS", x.house.event(0, 0), -1);
        Bench.due("static", x.house.stat(0, 0), 0);
    }
}
