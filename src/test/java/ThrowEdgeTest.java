/** Promise 10, what is thrown in RUNS and who catches it: a test for each sentence that names a boundary case. */
public final class ThrowEdgeTest {
    private static final int LEAST = -2147483648;
    private static final int MOST = 2147483647;
    private static final String MEMBERS = "class A { field a int; field b ref; virtual v(int, ref) none { ret; } virtual w() none { ret; } } class B : A { field c int; virtual u() none { ret; } } ";
    private static final int NULL = 2;
    private static final int BOUNDS = 3;
    private static final int SIZE = 4;
    private static final int DIVIDE = 5;
    private static final int CAST = 6;

    public static void main(String[] args) {
        nulls();
        casts();
        bounds();
        sizes();
        divides();
        newObject();
        orderOfAsking();
        marksOfAll();
        firstTry();
        whereItLies();
        inCallers();
        refAlone();
        leftMethods();
        ofAny();
        thrownOnes();
        Bench.finish();
    }

    /** METHOD 3 throws, and nothing catches it. */
    private static Bench thrown(String items, int type) {
        Bench x = new Bench().right(MEMBERS + "class M { method f(int) none { " + items + " ret; } }", 4);
        Bench.due("run of " + items, x.house.run(3), 3);
        Bench.due("class of what is thrown by " + items, x.house.object(x.house.result(1), 0), type);
        return x;
    }

    private static void done(String items) {
        Bench x = new Bench().right(MEMBERS + "class M { method f(int) none { " + items + " ret; } }", 4);
        Bench.due("run of " + items, x.house.run(3), 0);
    }

    private static void nulls() {
        Bench.sentence(10, "null where an OBJECT or ARRAY must be, thrown null: a NullFault;");
        for (String items : "null; get A a; pop;,null; get A b; pop;,null; push 1; put A a;,null; null; put A b;,null; push 1; null; virt A v;,null; virt A w;".split(",")) {
            thrown(items, NULL);
        }
        for (String items : "null; push 0; iget; pop;,null; push 0; rget; pop;,null; push 0; push 0; iput;,null; push 0; null; rput;,null; length; pop;,null; throw;".split(",")) {
            thrown(items, NULL);
        }
        done("null; as A; pop;");
        done("null; is A; pop;");
        done("null; pop; null; null; same x; x:");
        // null as a VALUE, or among the KINDS, is no ref that must be something.
        done("new A; null; put A b;");
        done("new A; push 1; null; virt A v;");
        done("push 1; refs; push 0; null; rput;");
    }

    private static void casts() {
        Bench.sentence(10, "get, put C: the ref must be an OBJECT of C; virt C: likewise");
        String[] refs = {"new Any", "new Fault", "new M", "push 1; ints", "push 1; refs"};
        for (String ref : refs) {
            thrown(ref + "; get A a; pop;", CAST);
            thrown(ref + "; push 1; put A a;", CAST);
            thrown(ref + "; push 1; null; virt A v;", CAST);
            thrown(ref + "; get B c; pop;", CAST);
        }
        for (String items : "new A; get A a; pop;,new B; get A a; pop;,new B; get B a; pop;,new B; get B c; pop;,new B; push 1; put A a;,new B; virt A w;,new B; virt B w;,new B; virt B u;".split(",")) {
            done(items);
        }
        // C is asked, not where the member stands.
        thrown("new A; get B a; pop;", CAST);
        thrown("new A; push 1; put B a;", CAST);
        thrown("new A; virt B w;", CAST);
        thrown("new A; virt B u;", CAST);
        Bench.sentence(10, "as C: null or of C; iget, iput: an ARRAY of ints; rget, rput: of refs; length: an ARRAY.");
        for (String ref : refs) {
            thrown(ref + "; as A; pop;", CAST);
            if (ref.startsWith("new")) {
                thrown(ref + "; length; pop;", CAST);
            } else {
                done(ref + "; length; pop;");
                done(ref + "; as Any; pop;");
            }
            if (ref.endsWith("ints")) {
                done(ref + "; push 0; iget; pop;");
                done(ref + "; push 0; push 5; iput;");
            } else {
                thrown(ref + "; push 0; iget; pop;", CAST);
                thrown(ref + "; push 0; push 5; iput;", CAST);
            }
            if (ref.endsWith("refs")) {
                done(ref + "; push 0; rget; pop;");
                done(ref + "; push 0; null; rput;");
            } else {
                thrown(ref + "; push 0; rget; pop;", CAST);
                thrown(ref + "; push 0; null; rput;", CAST);
            }
        }
        Bench.sentence(10, "a ref that isn't as told above: a CastFault;");
        thrown("new A; as B; pop;", CAST);
        done("new B; as A; as B; as Any; as B; pop;");
    }

    private static void bounds() {
        Bench.sentence(10, "an index outside: a BoundsFault;");
        int[] all = {LEAST, LEAST + 1, -65536, -4, -3, -2, -1, 0, 1, 2, 3, 4, 5, 65536, MOST - 1, MOST};
        String[][] codes = {{"ints", "iget; pop;"}, {"ints", "push 7; iput;"}, {"refs", "rget; pop;"}, {"refs", "null; rput;"}};
        for (int length = 0; length <= 3; length++) {
            for (String[] code : codes) {
                for (int index : all) {
                    Bench x = new Bench().right(MEMBERS + "class M { method f(int) none { push " + length + "; " + code[0] + "; load 0; " + code[1] + " ret; } }", 4);
                    x.house.argument(0, index, 0);
                    boolean inside = index >= 0 && index < length;
                    Bench.due(code[1] + " at " + index + " of " + length, x.house.run(3), inside ? 0 : 3);
                    Bench.due("class of what is thrown", x.house.object(1, 0), inside ? -1 : BOUNDS);
                    for (int k = 0; k < length; k++) {
                        boolean written = code[1].equals("push 7; iput;") && k == index;
                        Bench.due("element " + k, x.house.slot(0, k, 0), written ? 7 : code[0].equals("refs") ? -1 : 0);
                    }
                }
            }
        }
        // The ends of the longest ARRAY (2998, so that a FAULT has its CELL, too).
        for (int index : new int[] {0, 2997, 2998, -1}) {
            Bench x = new Bench().code("int", "int", "push 2998; ints; dup; load 0; push 5; iput; load 0; iget; ret;");
            x.house.argument(0, index, 0);
            x.run(index == 0 || index == 2997 ? 1 : 3, index == 0 || index == 2997 ? 5 : 1);
        }
    }

    private static void sizes() {
        Bench.sentence(10, "a length below 0: a SizeFault;");
        for (String word : "ints refs".split(" ")) {
            for (int length : new int[] {-1, -2, LEAST, LEAST + 1, -3000}) {
                Bench x = new Bench().code("int", "ref", "load 0; " + word + "; ret;");
                x.house.argument(0, length, 9);
                x.run(3, 0, 9, 2, 0, 0, 1, 1);
                Bench.due("class", x.house.object(0, 0), SIZE);
            }
            Bench x = new Bench().code("int", "ref", "load 0; " + word + "; ret;");
            x.run(2, 0, 0, 3, 0, 0, 1, 1);
            Bench.due("an ARRAY of none", x.house.object(0, 1), 0);
            Bench.due("its element", x.house.slot(0, 0, 0), -1);
            Bench.due("its length", new Bench().code("", "int", "push 0; " + word + "; length; ret;").house.run(0), 1);
        }
    }

    private static void divides() {
        Bench.sentence(10, "div, rem by 0: a DivideFault.");
        for (String word : "div rem".split(" ")) {
            for (int left : new int[] {0, 1, -1, LEAST, MOST}) {
                Bench x = new Bench().code("int, int", "int", "load 0; load 1; " + word + "; ret;");
                x.house.argument(0, left, 1);
                x.house.argument(1, 0, 2);
                x.run(3, 0, 3, 3, 0, 0, 1, 1);
                Bench.due("class", x.house.object(0, 0), DIVIDE);
                for (int right : new int[] {1, -1, LEAST, MOST}) {
                    x.house.argument(1, right, 2);
                    Bench.due(left + " " + word + " " + right, x.house.run(0), 1);
                    Bench.due("nothing is thrown", x.house.result(6), 0);
                }
            }
        }
    }

    private static void newObject() {
        Bench.sentence(10, "It is a new OBJECT; its ref has the MARKS of all that the INSTRUCTION took, together.");
        String[] items = {"null; throw;", "new Any; as A; pop;", "push 0; ints; push 0; iget; pop;", "push - 1; refs; pop;", "push 1; push 0; rem; pop;"};
        int[] types = {NULL, CAST, BOUNDS, SIZE, DIVIDE};
        for (int i = 0; i < items.length; i++) {
            Bench x = thrown(items[i], types[i]);
            int made = i == 1 || i == 2 ? 1 : 0;
            Bench.due("its number", x.house.result(1), made);
            Bench.due("OBJECTS and ARRAYS", x.house.result(6), made + 1);
            Bench.due("CELLS", x.house.result(7), made + 1);
            Bench.due("FIELDS", x.house.object(made, 1), 0);
            Bench.due("MARKS of no LENGTH", x.house.object(made, 2), 0);
            Bench.due("none behind it", x.house.object(made + 1, 0), -1);
        }
        // A new one each time.
        Bench x = new Bench().code("", "ref", "push 0; store 0; a: null; throw; b: h: store 1; inc 0 1; load 0; push 5; cmplt a; load 1; ret; try a b h Any;");
        x.run(2, 4, 0, 2 + 5 * 7 + 2, 0, 0, 5, 5);
        for (int i = 0; i < 5; i++) {
            Bench.due("class of OBJECT " + i, x.house.object(i, 0), NULL);
        }
    }

    private static void orderOfAsking() {
        Bench.sentence(10, "(null is asked first, then what the ref is, then the index.)");
        thrown("null; push - 1; iget; pop;", NULL);
        thrown("null; push - 1; push 1; iput;", NULL);
        thrown("null; push - 1; null; rput;", NULL);
        thrown("new A; push - 1; iget; pop;", CAST);
        thrown("push 0; refs; push 0; iget; pop;", CAST);
        thrown("push 0; refs; push - 1; push 1; iput;", CAST);
        thrown("push 0; ints; push 5; null; rput;", CAST);
        thrown("push 0; ints; push 5; rget; pop;", CAST);
        thrown("push 0; ints; push 0; iget; pop;", BOUNDS);
    }

    /** ARGUMENTS 0 (a ref) to 3 have MARKS 1, 2, 4, 8. */
    private static void marked(String items, int type, int marks) {
        for (int flows = 0; flows < 8; flows++) {
            Bench x = new Bench().right(MEMBERS + "class M { method f(ref, int, int, int) none { " + items + " ret; } }", 4);
            for (int i = 0; i < 4; i++) {
                x.house.argument(i, 0, 1 << i);
            }
            x.house.flows(flows);
            Bench.due("run of " + items, x.house.run(3), 3);
            Bench.due("class of " + items, x.house.object(x.house.result(1), 0), type);
            Bench.due("MARKS of what " + items + " throws with FLOWS " + flows, x.house.result(2), marks);
        }
    }

    private static void marksOfAll() {
        Bench.sentence(10, "The ref of a FAULT has the MARKS of all that the INSTRUCTION took (virt: the ref and all KINDS; iput, rput: all three; thrown null: its own), whatever FLOWS are.");
        marked("load 0; get A a; pop;", NULL, 1);
        marked("load 0; load 1; put A a;", NULL, 3);
        marked("load 0; load 0; put A b;", NULL, 1);
        marked("load 0; load 2; load 0; virt A v;", NULL, 5);
        marked("null; load 2; load 0; virt A v;", NULL, 5);
        marked("load 0; virt A w;", NULL, 1);
        marked("load 0; load 1; iget; pop;", NULL, 3);
        marked("load 0; load 1; load 2; iput;", NULL, 7);
        marked("load 0; load 1; load 0; rput;", NULL, 3);
        marked("null; load 1; load 2; iput;", NULL, 6);
        marked("load 0; load 3; rget; pop;", NULL, 9);
        marked("load 0; length; pop;", NULL, 1);
        marked("load 0; throw;", NULL, 1);
        marked("new Any; load 1; put A a;", CAST, 2);
        marked("new Any; load 1; load 0; virt A v;", CAST, 3);
        marked("new A; load 1; load 2; iput;", CAST, 6);
        marked("new A; load 1; load 0; rput;", CAST, 3);
        marked("new A; load 3; iget; pop;", CAST, 8);
        marked("load 2; ints; load 1; iget; pop;", BOUNDS, 2);
        marked("load 2; ints; load 1; load 3; iput;", BOUNDS, 10);
        marked("load 2; refs; load 1; load 0; rput;", BOUNDS, 3);
        marked("load 2; refs; load 3; rget; pop;", BOUNDS, 8);
        marked("load 1; push 1; sub; ints; pop;", SIZE, 2);
        marked("push - 1; mark 65535; refs; pop;", SIZE, 65535);
        marked("load 1; load 2; div; pop;", DIVIDE, 6);
        marked("push 5; load 3; rem; pop;", DIVIDE, 8);
        marked("load 2; push 0; rem; pop;", DIVIDE, 4);
        // What lies below on the STACK, or in locals, was not taken.
        marked("load 0; load 1; load 2; push 1; push 0; div; pop;", DIVIDE, 0);
        // What is thrown by throw keeps its MARKS, as a ref that is no null.
        marked("load 0; load 1; load 2; null; throw;", NULL, 0);
    }

    private static void caught(String items, String tries, int due) {
        Bench x = new Bench().right("class A { } class B : A { } class M { method f() int { a: " + items + " b: push 0; ret; g: pop; push 1; ret; h: pop; push 2; ret; k: pop; push 3; ret; " + tries + " } }", 1);
        Bench.due("run of " + items + tries, x.house.run(0), due < 0 ? 3 : 1);
        Bench.due("who caught it: " + items + tries, due < 0 ? -1 : x.house.result(1), due);
    }

    private static void firstTry() {
        Bench.sentence(10, "What is thrown comes to the first try, in the order of the text,");
        caught("null; throw;", "try a b g Any; try a b h Any; try a b k Any;", 1);
        caught("null; throw;", "try a b k Any; try a b g NullFault;", 3);
        caught("null; throw;", "try a b g CastFault; try a b h NullFault; try a b k Any;", 2);
        caught("null; throw;", TextTest.many("try a b g CastFault; ", 7) + "try a b k Fault;", 3);
        Bench.sentence(10, "and of whose class it is:");
        String[] names = {"Any", "Fault", "NullFault", "BoundsFault", "SizeFault", "DivideFault", "CastFault", "A", "B", "M"};
        String[] things = {"null; throw;", "push 0; ints; push 0; iget; pop;", "push - 1; ints; pop;", "push 1; push 0; div; pop;", "new A; as B; pop;", "new A; throw;", "new B; throw;",
            "new Any; throw;", "new Fault; throw;", "new NullFault; throw;", "push 0; ints; throw;", "push 0; refs; throw;"};
        String[] due = {"1110000000", "1101000000", "1100100000", "1100010000", "1100001000", "1000000100", "1000000110", "1000000000", "1100000000", "1110000000", "1000000000", "1000000000"};
        for (int i = 0; i < things.length; i++) {
            for (int j = 0; j < names.length; j++) {
                caught(things[i], "try a b h " + names[j] + ";", due[i].charAt(j) == '1' ? 2 : -1);
                caught(things[i], "try a b h " + names[j] + "; try a b k Any;", due[i].charAt(j) == '1' ? 2 : 3);
            }
        }
    }

    private static void whereItLies() {
        Bench.sentence(10, "that the INSTRUCTION (in METHODS that called: the call) lies in");
        // Eight INSTRUCTIONS, the fifth throws; each two LABELS as from and to.
        String items = "l0: push 1; l1: pop; l2: push 1; l3: pop; l4: null; l5: throw; l6: push 1; l7: pop; l8: push 0; ret; h: pop; push 1; ret; ";
        for (int from = 0; from < 8; from++) {
            for (int to = from + 1; to <= 8; to++) {
                Bench x = new Bench().code("", "int", items + "try l" + from + " l" + to + " h Any;");
                boolean lies = from <= 5 && 5 < to;
                Bench.due("from " + from + " to " + to, x.house.run(0), lies ? 1 : 3);
                Bench.due("and so many INSTRUCTIONS", x.house.result(3), lies ? 9 : 6);
            }
        }
        // A fault of the try's own at is not caught by it, unless it lies in it.
        new Bench().code("", "none", "a: null; throw; b: h: throw; try a b h Any;").run(3, 0, 0, 3, 0, 0, 1, 1);
        new Bench().code("", "none", "a: null; throw; b: h: throw; c: g: pop; ret; try a b h Any; try b c g Any;").run(0, 0, 0, 5, 0, 0, 1, 1);
        new Bench().code("", "none", "null; h: throw; c: try h c h Any;").run(4, 0, 0, 20000, 0, 0, 1, 1);
        // A try that ends at the METHOD's end.
        new Bench().code("", "none", "goto a; h: pop; ret; a: null; throw; e: try a e h Any;").run(0, 0, 0, 5, 0, 0, 1, 1);
    }

    private static void inCallers() {
        Bench.sentence(10, "(in METHODS that called: the call)");
        // The call is the second of four INSTRUCTIONS.
        String items = "l0: push 5; l1: call A t; l2: pop; l3: push 0; ret; h: pop; push 1; ret; ";
        for (int from = 0; from < 3; from++) {
            for (int to = from + 1; to <= 3; to++) {
                Bench x = new Bench().right("class A { method t() none { push 1; push 0; div; pop; ret; } method f() int { " + items + "try l" + from + " l" + to + " h DivideFault; } }", 2);
                boolean lies = from <= 1 && 1 < to;
                Bench.due("from " + from + " to " + to, x.house.run(1), lies ? 1 : 3);
                Bench.due("INSTRUCTIONS", x.house.result(3), lies ? 8 : 5);
            }
        }
        // From the 24th METHOD within one another to the first one, and from each to the one that calls it.
        Bench x = new Bench().right("class A { method d(int) int { load 0; ifle t; a: load 0; push 1; sub; call A d; b: ret; t: null; throw; h: pop; load 0; push 100; add; ret; k: throw; try a b h NullFault; } "
            + "method e(int) int { load 0; ifle t; load 0; push 1; sub; call A e; ret; t: push 0; ints; throw; } "
            + "method f(int) int { a: load 0; call A e; b: ret; h: length; push 7; add; ret; try a b h Any; } }", 3);
        x.house.argument(0, 23, 4);
        x.runOf(0, 1, 101, 4, 23 * 6 + 4 + 5 + 22, 0, 0, 1, 1);
        x.house.argument(0, 22, 4);
        x.runOf(2, 1, 7, 0, 2 + 22 * 6 + 5 + 4, 0, 0, 1, 1);
        x.house.argument(0, 23, 4);
        x.runOf(1, 3, 0, 0, 23 * 6 + 5, 0, 0, 1, 1);
        x.house.argument(0, 0, 4);
        x.runOf(2, 1, 7, 0, 2 + 5 + 4, 0, 0, 1, 1);
    }

    private static void refAlone() {
        Bench.sentence(10, "the STACK is the ref alone, with its MARKS.");
        Bench x = new Bench();
        x.code("int", "ref", "a: push 1; push 2; push 3; load 0; push 0; div; pop; null; ret; b: h: ret; try a b h Any;");
        x.house.argument(0, 5, 65535);
        x.run(2, 0, 65535, 7, 0, 0, 1, 1);
        // 16 VALUES are gone, and there is room for 15 more.
        x.code("", "int", "a: " + TextTest.many("push 1; ", 16) + "add; pop; push 1; push 0; div; ret; b: h: " + TextTest.many("push 2; ", 14) + "push 9; ret; try a b h Any;");
        x.run(1, 9, 0, 16 + 5 + 16);
        Bench.due("the most", x.house.method(0, 5), 16);
        x.code("", "int", "push 4; store 3; push 5; store 4; a: new A; throw; b: h: is A; load 3; add; load 4; add; ret; try a b h Any;").run(1, 10);
    }

    private static void leftMethods() {
        Bench.sentence(10, "Where there is none the METHOD is left.");
        // What a METHOD that was left had on its STACK and in its locals is gone; its caller's is as it was.
        Bench x = new Bench().right("class A { method t(int) int { push 50; store 0; push 60; store 1; push 1; push 2; null; throw; } "
            + "method f() int { push 7; store 0; push 8; store 1; a: push 3; push 4; call A t; b: ret; h: pop; load 0; push 10; mul; load 1; add; ret; try a b h Any; } }", 2);
        x.runOf(1, 1, 78, 0, 4 + 3 + 8 + 7, 0, 0, 1, 1);
        // The tries of a METHOD that was left, or that was called before, catch nothing.
        x.right("class A { method t() none { a: ret; b: h: pop; ret; try a b h Any; } method u() none { null; throw; a: null; b: h: pop; ret; try a b h Any; } "
            + "method f() none { call A t; call A u; ret; } }", 3);
        x.runOf(2, 3, 0, 0, 1 + 1 + 1 + 2);
    }

    private static void ofAny() {
        Bench.sentence(10, "A try of Any catches ARRAYS, too.");
        for (String word : "ints refs".split(" ")) {
            Bench x = new Bench().code("int", "ref", "a: load 0; " + word + "; throw; b: h: ret; try a b h Any;");
            x.house.argument(0, 3, 8);
            x.run(2, 0, 0, 4, 0, 0, 1, 4);
            x.code("int", "ref", "a: load 0; " + word + "; throw; b: h: ret; try a b h Fault; try a b h A;");
            x.house.argument(0, 3, 8);
            x.run(3, 0, 0, 3, 0, 0, 1, 4);
            Bench.due("what was thrown", x.house.object(x.house.result(1), 0), word.equals("ints") ? -2 : -3);
        }
    }

    private static void thrownOnes() {
        Bench.sentence(10, "3 by what was thrown and not caught;");
        Bench x = new Bench();
        x.code("", "none", "new Any; pop; new A; throw;").run(3, 1, 0, 4, 0, 0, 2, 2);
        x.code("", "int", "new Any; throw;").run(3, 0, 0, 2, 0, 0, 1, 1);
        x.code("", "ref", "new Any; dup; throw;").run(3, 0, 0, 3, 0, 0, 1, 1);
        x.code("ref", "none", "load 0; throw;");
        x.house.argument(0, 3, 65535);
        x.run(3, 0, 65535, 2, 0, 0, 1, 1);
        // What was thrown and caught leaves nothing in the result.
        x.code("", "none", "a: new A; throw; b: h: pop; ret; try a b h Any;").run(0, 0, 0, 4, 0, 0, 1, 1);
        x.code("", "none", "a: push 1; mark 3; ints; throw; b: h: length; mark 5; sink 1; x: goto x; try a b h Any;").run(4, 0, 0, 20000, 1, 0, 1, 2);
    }
}
