/** Promises 10 to 15, how RUNS begin and end, LIMITS, and what is asked: a test for each sentence that names a boundary case. */
public final class RunEdgeTest {
    private static final int LEAST = -2147483648;
    private static final int MOST = 2147483647;
    private static final int[] FAR = {LEAST, LEAST + 1, -65536, -100, -2, 4000, 65536, MOST - 1, MOST};

    public static void main(String[] args) {
        noSuchMethod();
        argumentsOfRuns();
        begins();
        ends();
        codesLimit();
        framesLimit();
        fullFrames();
        cellsLimit();
        eventsLimit();
        whatIsNotDone();
        askedAheadOfLimits();
        thrownTakesItsCell();
        lengthTakesNone();
        doneAheadOfALimit();
        numbering();
        results();
        mostOfResults();
        resultsOfEnds();
        events();
        objects();
        slots();
        slotsOfFields();
        stats();
        Bench.finish();
    }

    private static void noSuchMethod() {
        Bench.sentence(10, "how it ends, 0 .. 7; -10 no such METHOD.");
        Bench x = new Bench();
        for (int m : new int[] {-1, 0, 1, 24, LEAST, MOST}) {
            Bench.due("run(" + m + ") without a text", x.house.run(m), -10);
        }
        x.right("class A { }", 0);
        Bench.due("run(0) without METHODS", x.house.run(0), -10);
        x.right("class A { " + TextTest.many("method m%() int { push 5; ret; } ", 24) + "}", 24);
        for (int m = 0; m < 24; m++) {
            Bench.due("run(" + m + ")", x.house.run(m), 1);
        }
        Bench.due("run(-1)", x.house.run(-1), -10);
        Bench.due("run(24)", x.house.run(24), -10);
        for (int m : FAR) {
            Bench.due("run(" + m + ")", x.house.run(m), -10);
        }
        Bench.sentence(10, "run() of -10 leaves the latest RUN;");
        x.right("class A { static s int; field a int; method f() int { push 6; puts A s; new A; pop; push 4; sink 1; push 8; mark 2; ret; } }", 1);
        for (int m : new int[] {-1, 1, 24, LEAST, MOST}) {
            Bench.due("run(" + m + ")", x.house.run(m), -10);
            Bench.due("no RUN yet", x.house.result(0), -1);
            Bench.due("nor a static", x.house.stat(0, 0), -1);
        }
        x.run(1, 8, 2, 9, 1, 0, 1, 2);
        for (int m : new int[] {-1, 1, 24, LEAST, MOST}) {
            Bench.due("run(" + m + ")", x.house.run(m), -10);
            int[] due = {1, 8, 2, 9, 1, 0, 1, 2};
            for (int what = 0; what < 8; what++) {
                Bench.due("result(" + what + ") behind run(" + m + ")", x.house.result(what), due[what]);
            }
            Bench.due("event", x.house.event(0, 1), 4);
            Bench.due("object", x.house.object(0, 0), 7);
            Bench.due("slot", x.house.slot(0, 0, 0), 0);
            Bench.due("stat", x.house.stat(0, 0), 6);
        }
    }

    private static void argumentsOfRuns() {
        Bench.sentence(10, "its locals from 0 on are the ARGUMENTS (where a ref must be: null, with the ARGUMENT's MARKS; so a virtual's first one, too):");
        StringBuilder tell = new StringBuilder();
        for (int k = 0; k < 7; k++) {
            tell.append("load ").append(k).append(k == 0 || k == 2 || k == 6 ? "; is Any; sink " : "; sink ").append(k).append("; ");
        }
        Bench x = new Bench().right("class A { virtual v(int, ref, int, int, int, ref) none { " + tell + "ret; } method r(ref, int, ref) ref { load 2; ret; } method i(ref, int) int { load 1; ret; } }", 3);
        for (int i = 0; i < 7; i++) {
            x.house.argument(i, 100 + i, 1 << 2 * i);
        }
        x.runOf(0, 0);
        for (int k = 0; k < 7; k++) {
            boolean isRef = k == 0 || k == 2 || k == 6;
            Bench.due("local " + k, x.house.event(k, 1), isRef ? 0 : 100 + k);
            Bench.due("its MARKS", x.house.event(k, 2), 1 << 2 * k);
        }
        x.runOf(1, 2, -1, 16);
        x.runOf(2, 1, 101, 4);
        // An ARGUMENT is 0 without MARKS if none was put, and stays from RUN to RUN.
        x.code("int, int", "int", "load 0; inc 0 5; load 1; push 1; store 1; add; ret;").run(1, 0, 0);
        x.house.argument(1, 9, 3);
        x.run(1, 9, 3);
        x.run(1, 9, 3);
    }

    private static void begins() {
        Bench.sentence(10, "A RUN begins with statics 0 and null, no OBJECTS, no EVENTS; a METHOD has its ARGUMENTS.");
        Bench x = new Bench().right("class A { static s int; static t ref; field a int; method f(int) none { gets A s; sink 0; gets A t; is Any; sink 1; push 5; mark 1; puts A s; new A; dup; push 7; put A a; puts A t; "
            + "load 0; sink 2; push 9; store 0; push 3; ints; pop; x: load 0; pop; goto x; } method g() none { ret; } }", 2);
        x.house.argument(0, 4, 2);
        for (int times = 0; times < 3; times++) {
            x.runOf(0, 4, 0, 0, 20000, 3, 0, 2, 6);
            Bench.due("static int", x.house.event(0, 1), 0);
            Bench.due("its MARKS", x.house.event(0, 2), 0);
            Bench.due("static ref", x.house.event(1, 1), 0);
            Bench.due("the ARGUMENT", x.house.event(2, 1), 4);
            Bench.due("static behind it", x.house.stat(0, 0), 5);
            Bench.due("static behind it", x.house.stat(1, 0), 0);
        }
        x.runOf(1, 0, 0, 0, 1, 0, 0, 0, 0);
        Bench.due("static int", x.house.stat(0, 0), 0);
        Bench.due("its MARKS", x.house.stat(0, 1), 0);
        Bench.due("static ref", x.house.stat(1, 0), -1);
        Bench.due("OBJECTS", x.house.object(0, 0), -1);
        Bench.due("EVENTS", x.house.event(0, 0), -1);
    }

    private static void ends() {
        Bench.sentence(10, "It ends: 0 without a VALUE, 1 with an int, 2 with a ref, 3 by what was thrown and not caught;");
        Bench x = new Bench();
        x.code("", "none", "ret;").run(0, 0, 0, 1, 0, 0, 0, 0);
        x.code("", "none", TextTest.many("push 9; mark 1; ", 16) + "ret;").run(0, 0, 0, 33, 0, 0, 0, 0);
        x.code("", "int", "push 0; ret;").run(1, 0, 0, 2, 0, 0, 0, 0);
        x.code("", "int", "push 1; push 2; push - 1; mark 65535; ret;").run(1, -1, 65535, 5, 0, 0, 0, 0);
        x.code("", "int", TextTest.many("push 3; ", 15) + "push - 2147483648; ret;").run(1, LEAST, 0, 17, 0, 0, 0, 0);
        x.code("", "ref", "null; ret;").run(2, -1, 0, 2, 0, 0, 0, 0);
        x.code("", "ref", "push 0; refs; ret;").run(2, 0, 0, 3, 0, 0, 1, 1);
        x.code("", "ref", "new A; null; new A; ret;").run(2, 1, 0, 4, 0, 0, 2, 2);
        x.code("", "ref", "null; throw;").run(3, 0, 0, 2, 0, 0, 1, 1);
    }

    private static void codesLimit() {
        Bench.sentence(10, "4 behind 20000 INSTRUCTIONS (the next one isn't done),");
        // 2 ahead, 3 for each of n turns, and what stands for @ behind them.
        String items = "push 6665; store 1; x: inc 1 - 1; load 1; ifgt x; @";
        Bench x = new Bench();
        x.code("", "none", items.replace("@", "ret;")).run(0, 0, 0, 2 + 6665 * 3 + 1);
        x.code("", "none", items.replace("@", "push 1; pop; ret;")).run(0, 0, 0, 20000);
        x.code("", "none", items.replace("@", "push 1; pop; push 1; ret;")).run(4, 0, 0, 20000);
        x.code("", "int", items.replace("@", "push 1; push 2; ret;")).run(1, 2, 0, 20000);
        x.code("", "int", items.replace("@", "push 1; push 2; push 3; ret;")).run(4, 0, 0, 20000);
        x.code("", "none", items.replace("@", "push 1; sink 0; push 1; sink 0; ret;")).run(4, 0, 0, 20000, 1);
        x.code("", "none", items.replace("@", "push 1; push 1; sink 0; sink 0; ret;")).run(4, 0, 0, 20000, 1);
        x.code("", "none", items.replace("@", "push 1; push 2; push 3; sink 0; ret;")).run(4, 0, 0, 20000, 0);
        x.code("", "none", items.replace("@", "new A; new A; new A; new A; ret;")).run(4, 0, 0, 20000, 0, 0, 3, 3);
        // The 20000th may throw; to catch it takes none.
        x.code("", "none", items.replace("@", "push 1; null; throw;")).run(3, 0, 0, 20000, 0, 0, 1, 1);
        x.code("", "none", items.replace("@", "push 1; push 1; null; throw;")).run(4, 0, 0, 20000, 0, 0, 0, 0);
        x.code("", "none", items.replace("@", "push 1; null; a: throw; b: h: ret; try a b h Any;")).run(4, 0, 0, 20000, 0, 0, 1, 1);
        x.code("", "none", items.replace("@", "null; a: throw; b: h: ret; try a b h Any;")).run(0, 0, 0, 20000, 0, 0, 1, 1);
        x.code("", "none", "x: goto x;").run(4, 0, 0, 20000, 0, 0, 0, 0);
        // INSTRUCTIONS of all METHODS count together, the call and the ret, too.
        x.right("class A { method g() none { ret; } method f() none { x: call A g; goto x; } }", 2);
        x.runOf(1, 4, 0, 0, 20000);
        x.right("class A { method g() none { ret; } method f() none { " + items.replace("@", "call A g; ret;") + " } }", 2);
        x.runOf(1, 0, 0, 0, 20000);
        x.right("class A { method g() none { ret; } method f() none { " + items.replace("@", "push 1; call A g; ret;") + " } }", 2);
        x.runOf(1, 4, 0, 0, 20000);
    }

    private static void framesLimit() {
        Bench.sentence(10, "5 a 25th METHOD within one another would begin,");
        String call = "class A { method d(int) int { load 0; ifle x; load 0; push 1; sub; call A d; ret; x: push 77; ret; } }";
        String virt = "class A { virtual v(int) int { load 1; ifle x; new A; load 1; push 1; sub; virt A v; ret; x: push 77; ret; } }";
        for (int deep = 22; deep <= 26; deep++) {
            Bench x = new Bench().right(call, 1);
            x.house.argument(0, deep, 1);
            boolean fits = deep <= 23;
            x.run(fits ? 1 : 5, fits ? 77 : 0, 0, fits ? deep * 7 + 4 : 23 * 6 + 5);
            x.right(virt, 1);
            x.house.argument(1, deep, 1);
            x.run(fits ? 1 : 5, fits ? 77 : 0, 0, fits ? deep * 8 + 4 : 23 * 7 + 6, 0, 0, fits ? deep : 24);
        }
        // Those that have ended, or were left, are not within one another.
        Bench x = new Bench().right("class A { method d(int) none { load 0; ifle t; load 0; push 1; sub; call A d; ret; t: null; throw; } "
            + "method e(int) none { load 0; ifle t; load 0; push 1; sub; call A e; t: ret; } method f(int) int { push 50; store 1; x: load 0; call A e; a: load 0; call A d; b: push 0; ret; "
            + "h: pop; inc 1 - 1; load 1; ifgt x; push 5; ret; try a b h Any; } }", 3);
        x.house.argument(0, 22, 0);
        x.runOf(2, 1, 5);
        x.house.argument(0, 23, 0);
        x.runOf(2, 5, 0);
        x.right("class A { method g() none { ret; } method f() none { push 30; store 0; x: call A g; inc 0 - 1; load 0; ifgt x; ret; } }", 2);
        x.runOf(1, 0, 0, 0, 2 + 30 * 5 + 1);
    }

    /** In each of 24 METHODS within one another, and behind something caught, 16 locals and a STACK of 16 hold. */
    private static void fullFrames() {
        Bench.sentence(10, "5 a 25th METHOD within one another would begin,");
        StringBuilder stores = new StringBuilder();
        StringBuilder pushes = new StringBuilder();
        for (int k = 0; k < 16; k++) {
            stores.append(k == 0 ? "" : "load 0;store " + k + ";inc " + k + " " + k + ";");
            pushes.append("load ").append(k).append(";");
        }
        // Local 0 tells how deep; the STACK of 16 is full when n is called, and n writes its own local 0 and STACK.
        String text = "class A{method n()none{" + stores.toString().replace("load 0;", "push 90;") + "push 91;store 0;" + TextTest.many("push 8;", 16) + "ret;}"
            + "method d(int)int{" + stores + "a:null;throw;h:pop;b:load 0;ifle x;load 0;push 1;sub;call A d;sink 0;x:" + pushes + "call A n;" + TextTest.many("add;", 15) + "ret;try a h h Any;}}";
        for (String each : new String[] {text, text.replace("a:null;throw;h:pop;b:", "").replace("try a h h Any;", "")}) {
            Bench x = new Bench().right(each, 2);
            for (int deep = 0; deep < 23; deep++) {
                x.house.argument(0, deep, 0);
                x.runOf(1, 1, 16 * deep + 120, 0);
                for (int i = 0; i < deep; i++) {
                    Bench.due("METHOD " + i, x.house.event(i, 1), 16 * i + 120);
                }
            }
            // The 24th has them, too, though it can't call.
            x.right(each.replace("call A n;", ""), 2);
            x.house.argument(0, 23, 0);
            x.runOf(1, 1, 16 * 23 + 120, 0);
            Bench.due("the 24th", x.house.event(0, 1), 120);
        }
    }

    private static void cellsLimit() {
        Bench.sentence(10, "6 OBJECTS and ARRAYS would take more than 3000 CELLS (one each, and one for each FIELD, with those of classes above, or element),");
        Bench x = new Bench();
        for (String word : "ints refs".split(" ")) {
            for (int length : new int[] {2998, 2999, 3000, 3001, MOST - 1, MOST}) {
                x.code("int", "none", "load 0; " + word + "; pop; ret;");
                x.house.argument(0, length, 5);
                if (length <= 2999) {
                    x.run(0, 0, 0, 4, 0, 0, 1, 1 + length);
                } else {
                    x.run(6, 0, 0, 1, 0, 0, 0, 0);
                }
                // And what is left behind one of 1000.
                x.code("int", "none", "push 999; " + word + "; pop; load 0; " + word + "; pop; ret;");
                x.house.argument(0, length - 1000, 5);
                if (length <= 2999) {
                    x.run(0, 0, 0, 7, 0, 0, 2, 1001 + length - 1000);
                } else {
                    x.run(6, 0, 0, 4, 0, 0, 1, 1000);
                }
            }
        }
        x.code("", "none", "x: new A; pop; goto x;").run(6, 0, 0, 9000, 0, 0, 3000, 3000);
        x.code("", "none", "x: push 0; ints; pop; goto x;").run(6, 0, 0, 12001, 0, 0, 3000, 3000);
        // An OBJECT with 2 FIELDS of its own and 3 of those above takes 6.
        String classes = "class A { field a int; field b ref; field c int; } class B : A { field a int; field d ref; } ";
        for (int left = 4; left <= 8; left++) {
            x.right(classes + "class M { method f(int) none { load 0; ints; pop; new B; pop; ret; } }", 1);
            x.house.argument(0, 2999 - left, 0);
            if (left >= 6) {
                x.run(0, 0, 0, 6, 0, 0, 2, 3000 - left + 6);
            } else {
                x.run(6, 0, 0, 3, 0, 0, 1, 3000 - left);
            }
        }
        // The most FIELDS: 96, in OBJECTS of 97 CELLS.
        StringBuilder chain = new StringBuilder();
        for (int c = 0; c < 12; c++) {
            chain.append("class C").append(c).append(c == 0 ? "" : ":C" + (c - 1)).append("{").append(TextTest.many("field f% ref;", 8)).append(c == 11 ? "method f()none{x:new C11;pop;goto x;}" : "").append("}");
        }
        x.right(chain.toString(), 1).run(6, 0, 0, 90, 0, 0, 30, 30 * 97);
        Bench.due("FIELDS of the last", x.house.object(29, 1), 96);
        Bench.due("its last FIELD", x.house.slot(29, 95, 0), -1);
        Bench.due("a 31st", x.house.object(30, 0), -1);
    }

    private static void eventsLimit() {
        Bench.sentence(10, "7 a 501st EVENT.");
        for (int more = 499; more <= 502; more++) {
            Bench x = new Bench().code("int", "none", "x: load 0; mark 1; sink 15; inc 0 - 1; load 0; ifgt x; ret;");
            x.house.argument(0, more, 0);
            x.house.policy(15, 1);
            if (more <= 500) {
                x.run(0, 0, 0, more * 6 + 1, more, more, 0, 0);
            } else {
                x.run(7, 0, 0, 500 * 6 + 2, 500, 500, 0, 0);
            }
            Bench.due("EVENT 499", x.house.event(499, 1), more >= 500 ? more - 499 : -1);
            Bench.due("EVENT 500", x.house.event(500, 1), -1);
        }
    }

    private static void whatIsNotDone() {
        Bench.sentence(10, "an INSTRUCTION that throws is done and counts; one at which LIMIT 5, 6, 7 comes isn't, and doesn't.");
        Bench x = new Bench();
        x.code("", "none", "null; throw;").run(3, 0, 0, 2, 0, 0, 1, 1);
        x.code("", "none", "push 1; push 0; div; pop; ret;").run(3, 0, 0, 3, 0, 0, 1, 1);
        x.code("", "none", "a: null; throw; b: h: pop; ret; try a b h Any;").run(0, 0, 0, 4, 0, 0, 1, 1);
        x.code("", "none", "push 3000; ints; pop; ret;").run(6, 0, 0, 1, 0, 0, 0, 0);
        x.right("class A { method f() none { call A f; ret; } }", 1).run(5, 0, 0, 23, 0, 0, 0, 0);
        x.right("class A { virtual f() none { new A; virt A f; ret; } }", 1).run(5, 0, 0, 23 * 2 + 1, 0, 0, 24, 24);
        x.code("", "none", "x: push 1; sink 3; goto x;").run(7, 0, 0, 1501, 500, 0, 0, 0);
        // A FAULT that has no CELL left is not thrown, so that no try catches it.
        x.code("", "none", "push 2999; ints; pop; a: null; throw; b: h: pop; ret; try a b h Any;").run(6, 0, 0, 4, 0, 0, 1, 3000);
    }

    private static void askedAheadOfLimits() {
        Bench.sentence(10, "At one INSTRUCTION: null, what the ref is, index, length, 0; then LIMITS.");
        // A call of null, or of another class, at the 24th METHOD is a FAULT; of an OBJECT LIMIT 5.
        String text = "class A { virtual v(int) none { load 1; ifle x; new A; load 1; push 1; sub; virt A v; ret; x: @; push 1; virt A v; ret; } } class B { }";
        String[] refs = {"null", "new B", "new A"};
        for (int i = 0; i < 3; i++) {
            Bench x = new Bench().right(text.replace("@", refs[i]), 1);
            x.house.argument(1, 23, 0);
            Bench.due("run with " + refs[i], x.house.run(0), i < 2 ? 3 : 5);
            Bench.due("INSTRUCTIONS", x.house.result(3), 23 * 7 + 2 + 2 + (i < 2 ? 1 : 0));
            Bench.due("class of what is thrown", x.house.object(i == 0 ? 23 : 24, 0), i == 0 ? 2 : i == 1 ? 6 : -1);
        }
        Bench x = new Bench();
        // A length below 0 is a SizeFault, not LIMIT 6, if there is a CELL for it; without one it is LIMIT 6.
        x.code("", "none", "push 2998; ints; pop; push - 1; ints; pop; ret;").run(3, 1, 0, 5, 0, 0, 2, 3000);
        x.code("", "none", "push 2999; ints; pop; push - 1; ints; pop; ret;").run(6, 0, 0, 4, 0, 0, 1, 3000);
        x.code("", "none", "push 2998; ints; push - 2147483648; refs; pop; ret;").run(3, 1, 0, 4, 0, 0, 2, 3000);
        for (String items : "push 0; push 0; div; pop;,null; length; pop;,push 0; refs; length; pop; new Any; as A; pop;".split(",")) {
            boolean makes = items.contains("new");
            x.code("", "none", "push " + (makes ? 2996 : 2998) + "; ints; pop; " + items + " ret;");
            Bench.due("with the last CELL: " + items, x.house.run(0), 3);
            Bench.due("CELLS", x.house.result(7), 3000);
            x.code("", "none", "push " + (makes ? 2997 : 2999) + "; ints; pop; " + items + " ret;");
            Bench.due("without a CELL: " + items, x.house.run(0), 6);
            Bench.due("CELLS", x.house.result(7), 3000);
        }
    }

    private static void thrownTakesItsCell() {
        Bench.sentence(10, "What is thrown takes its CELL, too.");
        Bench x = new Bench();
        x.code("", "none", "a: null; throw; b: h: pop; goto a; try a b h Any;").run(6, 0, 0, 3000 * 4 + 1, 0, 0, 3000, 3000);
        Bench.due("the last one", x.house.object(2999, 0), 2);
        x.code("", "none", "push 2998; refs; pop; push 1; push 0; rem; pop; ret;").run(3, 1, 0, 6, 0, 0, 2, 3000);
        x.code("", "none", "push 2999; refs; pop; push 1; push 0; rem; pop; ret;").run(6, 0, 0, 5, 0, 0, 1, 3000);
        // To throw an OBJECT that there is takes none.
        x.code("", "none", "push 2998; refs; pop; new A; throw;").run(3, 1, 0, 5, 0, 0, 2, 3000);
        x.code("", "none", "push 2999; refs; throw;").run(3, 0, 0, 3, 0, 0, 1, 3000);
    }

    private static void lengthTakesNone() {
        Bench.sentence(10, "A LENGTH takes no CELL.");
        Bench x = new Bench();
        for (int length : new int[] {0, 1, 10, 2999}) {
            x.code("int", "none", "load 0; ints; length; pop; ret;");
            x.house.argument(0, length, 1);
            x.run(0, 0, 0, 5, 0, 0, 1, 1 + length);
        }
        x.code("", "none", "x: push 2; ints; pop; goto x;").run(6, 0, 0, 4001, 0, 0, 1000, 3000);
    }

    private static void doneAheadOfALimit() {
        Bench.sentence(10, "What was done ahead of a LIMIT stays to be asked.");
        String head = "class A { static s int; static t ref; field a int; method g() none { call A g; ret; } method f() none { push 7; mark 4; dup; puts A s; dup; sink 3; new A; dup; puts A t; swap; put A a; push 2; mark 8; ints; pop; ";
        String[] lasts = {"x: goto x;", "call A g; ret;", "push 2996; refs; pop; ret;", "x: push 1; sink 3; goto x;"};
        int[] codes = {20000, 14 + 1 + 22, 14 + 1, 14 + 499 * 3 + 1};
        for (int i = 0; i < 4; i++) {
            Bench x = new Bench().right(head + lasts[i] + " } }", 2);
            x.house.policy(3, 4);
            x.runOf(1, 4 + i, 0, 0, codes[i] + (i == 0 ? 0 : 1), i == 3 ? 500 : 1, 1, 2, 5);
            Bench.due("event", x.house.event(0, 1), 7);
            Bench.due("its MARKS", x.house.event(0, 2), 4);
            Bench.due("its ALARM", x.house.event(0, 3), 1);
            Bench.due("object", x.house.object(0, 0), 7);
            Bench.due("slot", x.house.slot(0, 0, 0), 7);
            Bench.due("its MARKS", x.house.slot(0, 0, 1), 4);
            Bench.due("LENGTH", x.house.object(1, 1), 2);
            Bench.due("its MARKS", x.house.object(1, 2), 8);
            Bench.due("none behind", x.house.object(2, 0), -1);
            Bench.due("stat", x.house.stat(0, 0), 7);
            Bench.due("its MARKS", x.house.stat(0, 1), 4);
            Bench.due("stat", x.house.stat(1, 0), 0);
        }
    }

    private static void numbering() {
        Bench.sentence(13, "OBJECTS and ARRAYS are numbered from 0 on as they are made (FAULTS, too).");
        Bench x = new Bench().right("class A { field a ref; method f() ref { new A; pop; push 0; refs; pop; a: null; throw; b: h: pop; push 2; ints; pop; c: push 0; push 0; div; pop; null; d: k: pop; new A; dup; new B; put A a; ret; "
            + "try a b h Any; try c d k Any; } } class B { }", 1);
        x.run(2, 5, 0, 20, 0, 0, 7, 11);
        int[] due = {7, -3, 2, -2, 5, 7, 8, -1};
        for (int i = 0; i < 8; i++) {
            Bench.due("class of " + i, x.house.object(i, 0), due[i]);
        }
        Bench.due("the FIELD", x.house.slot(5, 0, 0), 6);
    }

    private static void results() {
        Bench.sentence(11, "NONE ahead of any, for another what.");
        Bench x = new Bench();
        for (int what = -1; what <= 8; what++) {
            Bench.due("result(" + what + ") ahead of any", x.house.result(what), -1);
        }
        x.code("", "int", "new A; pop; push 1; ints; pop; push 3; mark 6; dup; sink 2; dup; sink 3; ret;");
        for (int what = -1; what <= 8; what++) {
            Bench.due("result(" + what + ") behind a text", x.house.result(what), -1);
        }
        x.house.policy(3, 2);
        x.run(1, 3, 6, 12, 2, 1, 2, 3);
        Bench.due("result(-1)", x.house.result(-1), -1);
        Bench.due("result(8)", x.house.result(8), -1);
        for (int what : FAR) {
            Bench.due("result(" + what + ")", x.house.result(what), -1);
        }
        x.code("", "int", "push 3; ret;");
        for (int what = 0; what < 8; what++) {
            Bench.due("result(" + what + ") of a RUN that is forgotten", x.house.result(what), -1);
        }
    }

    private static void mostOfResults() {
        Bench.sentence(11, "3 INSTRUCTIONS done, 4 EVENTS, 5 ALARMS, 6 OBJECTS and ARRAYS, 7 CELLS.");
        String items = "push 500; store 0; x: source 2; sink 1; inc 0 - 1; load 0; ifgt x; y: new A; pop; goto y;";
        Bench x = new Bench().code("", "none", items);
        x.run(6, 0, 0, 2 + 500 * 5 + 9000, 500, 0, 3000, 3000);
        x.house.policy(1, 4);
        x.run(6, 0, 0, 2 + 500 * 5 + 9000, 500, 500, 3000, 3000);
        x.code("", "none", "ret;").run(0, 0, 0, 1, 0, 0, 0, 0);
        x.code("", "none", "push 1; mark 1; sink 1; push 1; mark 2; sink 1; push 1; mark 4; sink 1; push 0; ints; push 2; ints; x: goto x;");
        x.run(4, 0, 0, 20000, 3, 1, 2, 4);
    }

    private static void resultsOfEnds() {
        Bench.sentence(11, "1 the int (or the number of the OBJECT or ARRAY, NONE of null), 2 its MARKS (1, 2 of what was thrown if it ended so; 0 if it ended otherwise),");
        Bench x = new Bench();
        x.code("int", "int", "load 0; ret;");
        for (int value : new int[] {0, -1, LEAST, MOST}) {
            x.house.argument(0, value, 65535);
            x.run(1, value, 65535);
        }
        x.code("ref", "ref", "load 0; ret;");
        x.house.argument(0, 5, 65535);
        x.run(2, -1, 65535);
        x.code("", "ref", "new A; ret;").run(2, 0, 0);
        x.code("", "ref", "push 1; ints; push 1; refs; ret;").run(2, 1, 0);
        x.code("int", "none", "new A; pop; load 0; ints; throw;");
        x.house.argument(0, 2, 65535);
        x.run(3, 1, 0, 5, 0, 0, 2, 4);
        x.code("int", "none", "new A; pop; load 0; push 0; div; ret;");
        x.house.argument(0, 2, 65535);
        x.run(3, 1, 65535, 5, 0, 0, 2, 2);
        x.code("int", "none", "load 0; ret;");
        x.house.argument(0, 2, 65535);
        x.run(0, 0, 0);
        for (String items : "x: goto x;,x: load 0; sink 0; goto x;,load 0; push 32767; mul; ints; ret;,load 0; call A f; ret;".split(",")) {
            x.code("int", "none", items);
            x.house.argument(0, 2, 65535);
            Bench.due("run by " + items, x.house.run(0) >= 4, true);
            Bench.due("result(1)", x.house.result(1), 0);
            Bench.due("result(2)", x.house.result(2), 0);
        }
    }

    private static void events() {
        Bench.sentence(12, "Of an EVENT of the latest RUN: what 0 k, 1 the int, 2 its MARKS, 3 whether it is an ALARM. NONE for none such, another what.");
        Bench x = new Bench();
        Bench.due("event(0, 0) ahead of any", x.house.event(0, 0), -1);
        x.code("int", "none", "load 0; ifeq e; push 0; sink 0; push - 2147483648; mark 65535; sink 15; push 2147483647; sink 7; e: ret;");
        Bench.due("event(0, 0) behind a text", x.house.event(0, 0), -1);
        x.house.policy(15, 32768);
        x.house.argument(0, 1, 0);
        x.run(0, 0, 0, 10, 3, 1);
        int[][] due = {{0, 0, 0, 0}, {15, LEAST, 65535, 1}, {7, MOST, 0, 0}};
        for (int i = 0; i < 3; i++) {
            for (int what = 0; what < 4; what++) {
                Bench.due("event(" + i + ", " + what + ")", x.house.event(i, what), due[i][what]);
            }
            Bench.due("event(" + i + ", -1)", x.house.event(i, -1), -1);
            Bench.due("event(" + i + ", 4)", x.house.event(i, 4), -1);
            for (int what : FAR) {
                Bench.due("event(" + i + ", " + what + ")", x.house.event(i, what), -1);
            }
        }
        for (int what = 0; what < 4; what++) {
            Bench.due("event(3, " + what + ")", x.house.event(3, what), -1);
            Bench.due("event(-1, " + what + ")", x.house.event(-1, what), -1);
            for (int i : FAR) {
                Bench.due("event(" + i + ", " + what + ")", x.house.event(i, what), -1);
            }
        }
        x.house.argument(0, 0, 0);
        x.run(0, 0, 0, 3, 0, 0);
        Bench.due("an EVENT of the RUN before", x.house.event(0, 0), -1);
    }

    private static void objects() {
        Bench.sentence(13, "what 0 its class (of an ARRAY -2 of ints, -3 of refs), 1 how many FIELDS or elements, 2 the MARKS of its LENGTH (0 of an OBJECT). NONE for none such, another what.");
        Bench x = new Bench();
        Bench.due("object(0, 0) ahead of any", x.house.object(0, 0), -1);
        x.right("class A { field a int; } class B : A { field b ref; field c int; method f(int) none { load 0; ifeq e; new Any; new CastFault; new A; new B; push 0; mark 65535; ints; push 3; mark 1; refs; ret; e: ret; } }", 1);
        Bench.due("object(0, 0) behind a text", x.house.object(0, 0), -1);
        x.house.argument(0, 1, 0);
        x.run(0, 0, 0, 13, 0, 0, 6, 1 + 1 + 2 + 4 + 1 + 4);
        int[][] due = {{0, 0, 0}, {6, 0, 0}, {7, 1, 0}, {8, 3, 0}, {-2, 0, 65535}, {-3, 3, 1}};
        for (int i = 0; i < 6; i++) {
            for (int what = 0; what < 3; what++) {
                Bench.due("object(" + i + ", " + what + ")", x.house.object(i, what), due[i][what]);
            }
            Bench.due("object(" + i + ", -1)", x.house.object(i, -1), -1);
            Bench.due("object(" + i + ", 3)", x.house.object(i, 3), -1);
            for (int what : FAR) {
                Bench.due("object(" + i + ", " + what + ")", x.house.object(i, what), -1);
            }
        }
        for (int what = 0; what < 3; what++) {
            Bench.due("object(6, " + what + ")", x.house.object(6, what), -1);
            Bench.due("object(-1, " + what + ")", x.house.object(-1, what), -1);
            for (int i : FAR) {
                Bench.due("object(" + i + ", " + what + ")", x.house.object(i, what), -1);
            }
        }
        x.house.argument(0, 0, 0);
        x.run(0, 0, 0, 3, 0, 0, 0, 0);
        Bench.due("an OBJECT of the RUN before", x.house.object(0, 0), -1);
        x.code("", "none", "x: new A; pop; goto x;").run(6);
        Bench.due("object(2999, 0)", x.house.object(2999, 0), 7);
        Bench.due("object(3000, 0)", x.house.object(3000, 0), -1);
    }

    private static void slots() {
        Bench.sentence(14, "what 0 the int, or the number of the OBJECT or ARRAY (NONE of null), 1 its MARKS. NONE for none such, another what.");
        Bench x = new Bench();
        Bench.due("slot(0, 0, 0) ahead of any", x.house.slot(0, 0, 0), -1);
        x.right("class A { field a int; field b ref; method f() none { new A; store 0; load 0; push - 2147483648; mark 65535; put A a; load 0; load 0; put A b; push 2; ints; store 1; load 1; push 1; push 2147483647; mark 1; iput; "
            + "push 2; refs; store 2; load 2; push 0; load 1; rput; push 0; ints; pop; new Any; pop; ret; } }", 1);
        Bench.due("slot(0, 0, 0) behind a text", x.house.slot(0, 0, 0), -1);
        x.run(0);
        int[][] due = {{0, 0, LEAST, 65535}, {0, 1, 0, 0}, {1, 0, 0, 0}, {1, 1, MOST, 1}, {2, 0, 1, 0}, {2, 1, -1, 0}};
        for (int[] row : due) {
            String slot = "slot(" + row[0] + ", " + row[1] + ", ";
            Bench.due(slot + "0)", x.house.slot(row[0], row[1], 0), row[2]);
            Bench.due(slot + "1)", x.house.slot(row[0], row[1], 1), row[3]);
            Bench.due(slot + "-1)", x.house.slot(row[0], row[1], -1), -1);
            Bench.due(slot + "2)", x.house.slot(row[0], row[1], 2), -1);
            for (int what : FAR) {
                Bench.due(slot + what + ")", x.house.slot(row[0], row[1], what), -1);
            }
        }
        int[] sizes = {2, 2, 2, 0, 0};
        for (int i = -1; i <= 5; i++) {
            for (int what = 0; what < 2; what++) {
                int size = i < 0 || i > 4 ? 0 : sizes[i];
                Bench.due("slot(" + i + ", -1, " + what + ")", x.house.slot(i, -1, what), -1);
                Bench.due("slot(" + i + ", " + size + ", " + what + ")", x.house.slot(i, size, what), -1);
                for (int far : FAR) {
                    Bench.due("slot(" + i + ", " + far + ", " + what + ")", x.house.slot(i, far, what), -1);
                    Bench.due("slot(" + far + ", 0, " + what + ")", x.house.slot(far, 0, what), -1);
                    Bench.due("slot(" + far + ", " + far + ", " + what + ")", x.house.slot(far, far, what), -1);
                }
            }
        }
        // The longest ARRAY, and none of the RUN before.
        x.code("int", "none", "load 0; ints; dup; push 2998; push 5; iput; pop; ret;");
        x.house.argument(0, 2999, 0);
        x.run(0);
        Bench.due("slot(0, 2998, 0)", x.house.slot(0, 2998, 0), 5);
        Bench.due("slot(0, 2999, 0)", x.house.slot(0, 2999, 0), -1);
        x.house.argument(0, 4, 0);
        x.run(3);
        Bench.due("slot(0, 3, 0)", x.house.slot(0, 3, 0), 0);
        Bench.due("slot(0, 4, 0)", x.house.slot(0, 4, 0), -1);
        Bench.due("slot(0, 2998, 0)", x.house.slot(0, 2998, 0), -1);
    }

    private static void slotsOfFields() {
        Bench.sentence(14, "(FIELDS: those of the highest class first, as they stand):");
        StringBuilder text = new StringBuilder();
        StringBuilder puts = new StringBuilder();
        for (int c = 0; c < 5; c++) {
            text.append("class C").append(c).append(c == 0 ? "" : ":C" + (c - 1)).append("{");
            for (int k = 0; k < 3; k++) {
                text.append("field f").append(2 - k).append(" int;").append(k == 1 ? "static s" + c + " int;" : "");
                puts.append("load 0;push ").append(10 * c + k).append(";put C").append(c).append(" f").append(2 - k).append(";");
            }
            text.append("}");
        }
        Bench x = new Bench().right(text + "class M{method f()none{new C4;store 0;" + puts + "ret;}}", 1);
        x.run(0);
        for (int c = 0; c < 5; c++) {
            for (int k = 0; k < 3; k++) {
                Bench.due("slot(0, " + (3 * c + k) + ", 0)", x.house.slot(0, 3 * c + k, 0), 10 * c + k);
            }
        }
        Bench.due("slot(0, 15, 0)", x.house.slot(0, 15, 0), -1);
    }

    private static void stats() {
        Bench.sentence(15, "Of a static behind the latest RUN: as slot().");
        Bench x = new Bench().right("class A { " + TextTest.many("static i% int; ", 8) + "method f() none { push - 2147483648; mark 65535; puts A i0; push 2147483647; puts A i7; new A; pop; new A; puts B r7; ret; } "
            + "method g() none { ret; } } class B { " + TextTest.many("static r% ref; ", 8) + "}", 2);
        Bench.sentence(15, "Without a RUN stat() is NONE, too.");
        for (int k = -1; k <= 16; k++) {
            Bench.due("stat(" + k + ", 0)", x.house.stat(k, 0), -1);
            Bench.due("stat(" + k + ", 1)", x.house.stat(k, 1), -1);
        }
        Bench.sentence(15, "Of a static behind the latest RUN: as slot().");
        x.runOf(0, 0);
        for (int k = 0; k < 16; k++) {
            Bench.due("stat(" + k + ", 0)", x.house.stat(k, 0), k == 0 ? LEAST : k == 7 ? MOST : k == 15 ? 1 : k < 8 ? 0 : -1);
            Bench.due("stat(" + k + ", 1)", x.house.stat(k, 1), k == 0 ? 65535 : 0);
            Bench.due("stat(" + k + ", -1)", x.house.stat(k, -1), -1);
            Bench.due("stat(" + k + ", 2)", x.house.stat(k, 2), -1);
            for (int far : FAR) {
                Bench.due("stat(" + k + ", " + far + ")", x.house.stat(k, far), -1);
                Bench.due("stat(" + far + ", " + k % 2 + ")", x.house.stat(far, k % 2), -1);
            }
        }
        for (int what = 0; what < 2; what++) {
            Bench.due("stat(-1, " + what + ")", x.house.stat(-1, what), -1);
            Bench.due("stat(16, " + what + ")", x.house.stat(16, what), -1);
        }
        x.runOf(1, 0);
        for (int k = 0; k < 16; k++) {
            Bench.due("stat(" + k + ", 0) of the next RUN", x.house.stat(k, 0), k < 8 ? 0 : -1);
            Bench.due("stat(" + k + ", 1) of the next RUN", x.house.stat(k, 1), 0);
        }
        x.right("class A { static s int; method f() none { push 1; mark 1; puts A s; ret; } }", 1);
        x.run(0);
        Bench.due("stat(0, 0)", x.house.stat(0, 0), 1);
        Bench.due("stat(1, 0) of a text with one", x.house.stat(1, 0), -1);
        Bench.due("stat(1, 1) of a text with one", x.house.stat(1, 1), -1);
    }
}
