/** Promises 1 to 3, 5 to 9, 16 to 18: what is asked and set around texts and RUNS. */
public final class FaceTest {
    public static void main(String[] args) {
        Bench.due("NONE", TaintHouse.NONE, -1);
        newObject();
        tape();
        tapeIsRead();
        place();
        flows();
        policies();
        inputs();
        arguments();
        types();
        methods();
        counts();
        Bench.finish();
    }

    /** Promise 1. */
    private static void newObject() {
        TaintHouse x = new TaintHouse();
        Bench.due("classes", x.count(0), 7);
        Bench.due("METHODS", x.count(1), 0);
        Bench.due("statics", x.count(2), 0);
        Bench.due("FLOWS", x.count(3), 0);
        Bench.due("bytes", x.count(4), 0);
        Bench.due("place", x.place(), -1);
        Bench.due("run(0)", x.run(0), -10);
        for (int what = -1; what <= 8; what++) {
            Bench.due("result(" + what + ") without a RUN", x.result(what), -1);
        }
        Bench.due("event(0, 0)", x.event(0, 0), -1);
        Bench.due("object(0, 0)", x.object(0, 0), -1);
        Bench.due("slot(0, 0, 0)", x.slot(0, 0, 0), -1);
        Bench.due("stat(0, 0)", x.stat(0, 0), -1);
        Bench.due("method(0, 0)", x.method(0, 0), -1);
        Bench.due("flows", x.flows(0), 0);
        int[] parents = {-1, 0, 1, 1, 1, 1, 1};
        for (int c = 0; c < 7; c++) {
            Bench.due("parent of " + c, x.type(c, 0), parents[c]);
            Bench.due("fields of " + c, x.type(c, 1), 0);
            Bench.due("METHODS of " + c, x.type(c, 2), 0);
        }
        Bench.due("type(7, 0)", x.type(7, 0), -1);
        for (int k = 0; k < 16; k++) {
            Bench.due("policy", x.policy(k, 0), 0);
            Bench.due("input", x.input(k, 0), 0);
        }
        Bench other = new Bench().code("int, int, int, int, int, int", "int", "load 5; ret;").run(1, 0, 0);
        Bench.due("a new object's ARGUMENTS", other.house.result(1), 0);
    }

    /** Promises 2 and 3. */
    private static void tape() {
        TaintHouse x = new TaintHouse();
        for (int i = 0; i < 199; i++) {
            Bench.due("feed " + i, x.feed(i, -1, 0x20202020, 0, 7), true);
        }
        Bench.due("bytes", x.count(4), 3980);
        Bench.due("the last feed", x.feed(1, 2, 3, 4, 5), true);
        Bench.due("bytes", x.count(4), 4000);
        Bench.due("a feed too many", x.feed(1, 2, 3, 4, 5), false);
        Bench.due("bytes", x.count(4), 4000);
        Bench.due("end(4001)", x.end(4001), false);
        Bench.due("end(-1)", x.end(-1), false);
        Bench.due("end of the least int", x.end(-2147483648), false);
        Bench.due("end(4000)", x.end(4000), true);
        Bench.due("end(3981)", x.end(3981), true);
        Bench.due("a feed that would have 4001", x.feed(1, 2, 3, 4, 5), false);
        Bench.due("bytes", x.count(4), 3981);
        Bench.due("end(3980)", x.end(3980), true);
        Bench.due("a feed up to 4000", x.feed(1, 2, 3, 4, 5), true);
        Bench.due("end(3982)", x.end(3982), true);
        Bench.due("end(3983)", x.end(3983), false);
        Bench.due("bytes", x.count(4), 3982);
        Bench.due("end(0)", x.end(0), true);
        Bench.due("bytes", x.count(4), 0);
        Bench.due("end(1)", x.end(1), false);
        Bench.due("end(0) of an empty one", x.end(0), true);
    }

    private static void tapeIsRead() {
        TaintHouse x = new TaintHouse();
        // "clas" "s A " "{ } " blanks: the highest byte is the first.
        Bench.due("feed", x.feed(0x636C6173, 0x73204120, 0x7B207D20, 0x20202020, 0x0A0D0920), true);
        Bench.due("text", x.text(), 0);
        Bench.due("bytes behind it", x.count(4), 0);
        Bench.due("classes", x.count(0), 8);
        Bench.put(x, "class A { ? }");
        Bench.due("a WRONG text", x.text(), -1 - 10);
        Bench.due("bytes behind it", x.count(4), 0);
        Bench.put(x, "class A : B { }");
        Bench.due("a faulty text", x.text(), -5002);
        Bench.due("bytes behind it", x.count(4), 0);
        Bench.put(x, "class A {");
        Bench.put(x, " } class B { }");
        Bench.due("a text in pieces", x.text(), 0);
        Bench.due("classes", x.count(0), 9);
        StringBuilder full = new StringBuilder("class A { }");
        while (full.length() < 4000) {
            full.append(' ');
        }
        Bench.due("room for 4000", Bench.put(x, full.toString()), true);
        Bench.due("a full tape", x.text(), 0);
        full.setCharAt(3999, '!');
        Bench.put(x, full.toString());
        Bench.due("a full tape, WRONG at its last byte", x.text(), -4000);
        full.setCharAt(10, ' ');
        full.setCharAt(3999, ' ');
        Bench.put(x, full.toString());
        Bench.due("a full tape, WRONG at its end", x.text(), -4001);
    }

    /** Promise 5. */
    private static void place() {
        Bench x = new Bench();
        x.fault("class A : B { }", 2, 10);
        Bench.due("asked again", x.house.place(), 10);
        x.wrong("class", 5);
        x.fault("class Any { }", 1, 6);
        x.right("class A { }", 0);
        x.fault("class A { method f() none { } }", 5, 28);
        x.read("");
        Bench.due("behind an empty text", x.house.place(), -1);
    }

    /** Promise 6. */
    private static void flows() {
        TaintHouse x = new TaintHouse();
        Bench.due("flows(5)", x.flows(5), 0);
        Bench.due("FLOWS", x.count(3), 5);
        Bench.due("flows(-1)", x.flows(-1), 5);
        Bench.due("flows(8)", x.flows(8), 7);
        Bench.due("flows(2)", x.flows(2), 0);
        Bench.put(x, "class A { }");
        x.text();
        Bench.due("behind a text", x.flows(0), 2);
    }

    /** Promise 7. */
    private static void policies() {
        TaintHouse x = new TaintHouse();
        Bench.due("policy(0, 3)", x.policy(0, 3), 0);
        Bench.due("policy(15, 65535)", x.policy(15, 65535), 0);
        Bench.due("policy(15, -1)", x.policy(15, -1), 65535);
        Bench.due("policy(15, 65536 + 9)", x.policy(15, 65536 + 9), 65535);
        Bench.due("policy(15, 0)", x.policy(15, 0), 9);
        Bench.due("policy(0, 0)", x.policy(0, 0), 3);
        Bench.due("policy(16, 1)", x.policy(16, 1), -15);
        Bench.due("policy(-1, 1)", x.policy(-1, 1), -15);
        Bench.due("policy of the least int", x.policy(-2147483648, 1), -15);
        Bench.due("policy of the greatest int", x.policy(2147483647, 1), -15);
        x.policy(4, 77);
        Bench.put(x, "class A { }");
        x.text();
        Bench.due("behind a text", x.policy(4, 0), 77);
    }

    /** Promise 8. */
    private static void inputs() {
        TaintHouse x = new TaintHouse();
        Bench.due("input(0, 3)", x.input(0, 3), 0);
        Bench.due("input(15, -1)", x.input(15, -1), 0);
        Bench.due("input(15, -2147483648)", x.input(15, -2147483648), -1);
        Bench.due("input(15, 1)", x.input(15, 1), -2147483648);
        Bench.due("input(16, 1)", x.input(16, 1), -1);
        Bench.due("input(-1, 1)", x.input(-1, 1), -1);
        Bench.due("input of the greatest int", x.input(2147483647, 1), -1);
        Bench.put(x, "class A { }");
        x.text();
        Bench.due("behind a text", x.input(0, 0), 3);
    }

    /** Promise 9. */
    private static void arguments() {
        Bench x = new Bench();
        Bench.due("argument(7, 1, 1)", x.house.argument(7, 1, 1), -15);
        Bench.due("argument(-1, 1, 1)", x.house.argument(-1, 1, 1), -15);
        Bench.due("argument ahead of a text", x.house.argument(0, 9, 9), 1);
        x.code("int", "int", "load 0; ret;").run(1, 0, 0);
        Bench.due("argument", x.house.argument(0, -5, 65536 * 3 + 17), 1);
        x.run(1, -5, 17);
        x.run(1, -5, 17);
        Bench.due("argument", x.house.argument(0, -2147483648, -1), 1);
        x.run(1, -2147483648, 65535);
        x.wrong("class A", 7);
        x.run(1, -2147483648, 65535);
        x.fault("class A { method f() none { add; } }", 5, 28);
        x.run(1, -2147483648, 65535);
        x.code("int", "int", "load 0; ret;").run(1, 0, 0);
    }

    /** Promise 16. */
    private static void types() {
        Bench x = new Bench().right("class A { field a int; field b ref; static s int; method f() none { ret; } virtual g() none { ret; } }"
            + " class B : A { } class C : B { field a int; static t ref; virtual g() none { ret; } } class D : NullFault { field z int; } class E { }", 3);
        int[][] due = {{0, 2, 2}, {7, 2, 0}, {8, 3, 1}, {2, 1, 0}, {0, 0, 0}};
        for (int c = 0; c < due.length; c++) {
            for (int what = 0; what < 3; what++) {
                Bench.due("type(" + (7 + c) + ", " + what + ")", x.house.type(7 + c, what), due[c][what]);
            }
        }
        Bench.due("type(12, 0)", x.house.type(12, 0), -1);
        Bench.due("type(-1, 0)", x.house.type(-1, 0), -1);
        Bench.due("type(7, 3)", x.house.type(7, 3), -1);
        Bench.due("type(7, -1)", x.house.type(7, -1), -1);
        Bench.due("type of the greatest int", x.house.type(2147483647, 1), -1);
        Bench.due("type(6, 0)", x.house.type(6, 0), 1);
    }

    /** Promise 17. */
    private static void methods() {
        Bench x = new Bench().right("class A { method f() none { ret; } virtual g(int, ref) ref { null; null; null; pop; pop; ret; }"
            + " method h(int, int, int, int, int, int) int { push 1; ret; push 1; push 1; push 1; pop; } }"
            + " class B { method k() ref { x: y: null; dup; dup; throw; c: ret; try x c c Any; } }", 4);
        int[][] due = {{7, 0, 0, 0, 1, 0}, {7, 2, 2, 1, 6, 3}, {7, 6, 1, 0, 6, 1}, {8, 0, 2, 0, 5, 3}};
        for (int m = 0; m < due.length; m++) {
            for (int what = 0; what < 6; what++) {
                Bench.due("method(" + m + ", " + what + ")", x.house.method(m, what), due[m][what]);
            }
        }
        Bench.due("method(4, 0)", x.house.method(4, 0), -1);
        Bench.due("method(-1, 0)", x.house.method(-1, 0), -1);
        Bench.due("method(0, 6)", x.house.method(0, 6), -1);
        Bench.due("method(0, -1)", x.house.method(0, -1), -1);
        Bench.due("method of the least int", x.house.method(-2147483648, 0), -1);
        x.wrong("class A {", 9);
        Bench.due("what isn't right changes nothing", x.house.method(3, 0), 8);
    }

    /** Promise 18. */
    private static void counts() {
        Bench x = new Bench().right("class A { static s int; static t ref; method f() none { ret; } } class B { static u int; }", 1);
        x.house.flows(6);
        Bench.put(x.house, "abc");
        int[] due = {9, 1, 3, 6, 3};
        for (int what = 0; what < due.length; what++) {
            Bench.due("count(" + what + ")", x.house.count(what), due[what]);
        }
        Bench.due("count(5)", x.house.count(5), -1);
        Bench.due("count(-1)", x.house.count(-1), -1);
        Bench.due("text of abc", x.house.text(), -1);
        Bench.due("classes", x.house.count(0), 9);
        x.right("class A { }", 0);
        Bench.due("classes", x.house.count(0), 8);
        Bench.due("METHODS", x.house.count(1), 0);
        Bench.due("statics", x.house.count(2), 0);
    }
}
