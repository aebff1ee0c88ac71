/** Promises 4 and 5, FAULT 5 (at the sign ^): a test for each sentence that names a boundary case. */
public final class CodeEdgeTest {
    /** INSTRUCTIONS, what they take (i, r; the last one on top) and what they leave. */
    private static final String[] TAKES = {"push 1::i", "null::r", "neg:i:i", "add:ii:i", "sub:ii:i", "mul:ii:i", "div:ii:i", "rem:ii:i", "and:ii:i", "or:ii:i", "xor:ii:i",
        "shl:ii:i", "shr:ii:i", "ushr:ii:i", "ifeq x:i:", "ifne x:i:", "iflt x:i:", "ifge x:i:", "ifgt x:i:", "ifle x:i:", "cmpeq x:ii:", "cmpne x:ii:", "cmplt x:ii:", "cmpge x:ii:",
        "cmpgt x:ii:", "cmple x:ii:", "ifnull x:r:", "ifsome x:r:", "same x:rr:", "other x:rr:", "new A::r", "get A a:r:i", "get A b:r:r", "put A a:ri:", "put A b:rr:", "gets A s::i",
        "gets A t::r", "puts A s:i:", "puts A t:r:", "ints:i:r", "refs:i:r", "iget:ri:i", "iput:rii:", "rget:ri:r", "rput:rir:", "length:r:i", "call A n::", "call A m:irr:i",
        "call A k:iiiiii:r", "virt A v:r:", "virt A w:riir:r", "is A:r:i", "as A:r:r", "source 0::i", "sink 0:i:", "clean 1:i:i", "mark 1:i:i", "goto x::"};
    private static final String REST = " field a int; field b ref; static s int; static t ref; method n() none { ret; } method m(int, ref, ref) int { push 1; ret; } "
        + "method k(int, int, int, int, int, int) ref { null; ret; } virtual v() none { ret; } virtual w(int, int, ref) ref { null; ret; } }";

    public static void main(String[] args) {
        withoutAny();
        atFirst();
        takes();
        anyKind();
        moreThan16();
        localsThatMayBeOther();
        rets();
        callsAndVirts();
        orderOfOperands();
        whatComesBehind();
        tryBounds();
        everyCodeComesToItsTries();
        localsAheadOfIt();
        endOfAMethod();
        anotherStack();
        byAnyWay();
        somethingMore();
        manyTimesMore();
        stores();
        lowestFirst();
        orderBehind();
        ownFirst();
        methodsInOrder();
        behindOtherFaults();
        Bench.finish();
    }

    private static String pushes(String kinds) {
        return kinds.replace("i", "push 1; ").replace("r", "null; ");
    }

    private static void faulty(String kinds, String result, String marked) {
        new Bench().faultAt(5, "class A { method f(" + kinds + ") " + result + " { " + marked + "}" + REST);
    }

    private static void fine(String kinds, String result, String items) {
        new Bench().right("class A { method f(" + kinds + ") " + result + " { " + items + " }" + REST, 6);
    }

    private static void withoutAny() {
        Bench.sentence(4, "(a METHOD without any has FAULT 5 at its } )");
        faulty("", "none", "^");
        new Bench().faultAt(5, "class A { method f() none {^} }");
        new Bench().faultAt(5, "class A { virtual f(int, ref) int { # ret;\n x: y: ^} }");
        new Bench().faultAt(5, "class A { method g() none { ret; } method f() none { a: b: # }\n^} }");
    }

    private static void atFirst() {
        Bench.sentence(4, "the STACK is empty, locals from 0 on are the KINDS (a virtual's local 0 is a ref, KINDS from 1 on), the others unset.");
        faulty("int, ref", "none", "^pop; ret;");
        faulty("int", "int", "^ret;");
        String kinds = "int, ref, ref, int, int, ref";
        String signs = "irriir";
        for (int k = 0; k < 16; k++) {
            for (int own = 0; own < 2; own++) {
                char kind = k < own ? 'r' : k - own < 6 ? signs.charAt(k - own) : 'u';
                String head = "class A { " + (own == 1 ? "virtual" : "method") + " f(" + kinds + ") none { ";
                String asInt = "load " + k + "; neg; ret; } }";
                String asRef = "load " + k + "; length; ret; } }";
                Bench x = new Bench();
                if (kind == 'i') {
                    x.right(head + asInt, 1);
                    x.right(head + "inc " + k + " 1; ret; } }", 1);
                    x.faultAt(5, head + asRef.replace("length", "^length"));
                } else if (kind == 'r') {
                    x.right(head + asRef, 1);
                    x.faultAt(5, head + asInt.replace("neg", "^neg"));
                    x.faultAt(5, head + "^inc " + k + " 1; ret; } }");
                } else {
                    x.faultAt(5, head + "^" + asInt);
                    x.faultAt(5, head + "^inc " + k + " 1; ret; } }");
                }
            }
        }
    }

    private static void takes() {
        Bench.sentence(4, "if the STACK has too few or other kinds than it takes,");
        for (String row : TAKES) {
            String[] told = row.split(":", -1);
            String takes = told[1];
            String label = told[0].endsWith(" x") ? told[0].equals("goto x") ? "x: " : pushes(told[2]) + "x: " : "";
            String behind = told[0].equals("goto x") ? " x: ret;" : " " + label + "ret;";
            fine("", "none", pushes(takes) + told[0] + ";" + behind);
            fine("", "none", "push 1; null; " + pushes(takes) + told[0] + ";" + behind);
            for (int i = 0; i < takes.length(); i++) {
                // One less (from below, and just the upper ones), and another kind at each place.
                faulty("", "none", pushes(takes.substring(i + 1)) + "^" + told[0] + ";" + behind);
                String other = takes.substring(0, i) + (takes.charAt(i) == 'i' ? "r" : "i") + takes.substring(i + 1);
                faulty("", "none", pushes(other) + "^" + told[0] + ";" + behind);
            }
            // What it leaves: a RESULT that fits, none too many, what lies below.
            String leaves = told[2];
            if (leaves.isEmpty()) {
                String left = told[0].endsWith(" x") ? " x: " : " ";
                faulty("", "int", pushes(takes) + told[0] + ";" + left + "^ret;");
                fine("", "int", "push 1; " + pushes(takes) + told[0] + ";" + left + "ret;");
                fine("", "ref", "null; " + pushes(takes) + told[0] + ";" + left + "ret;");
            } else {
                fine("", leaves.equals("i") ? "int" : "ref", pushes(takes) + told[0] + "; ret;");
                faulty("", leaves.equals("i") ? "ref" : "int", pushes(takes) + told[0] + "; ^ret;");
                faulty("", "none", pushes(takes) + told[0] + "; pop; ^pop; ret;");
            }
        }
        faulty("", "none", "^throw;");
        faulty("", "none", "push 1; ^throw;");
        fine("", "none", "push 1; null; throw;");
    }

    private static void anyKind() {
        Bench.sentence(4, "FAULT 5 at it, if the STACK has too few");
        for (String word : "dup pop swap".split(" ")) {
            faulty("", "none", "^" + word + "; ret;");
        }
        faulty("", "none", "^store 0; ret;");
        faulty("", "none", "push 1; ^swap; ret;");
        faulty("", "none", "null; ^swap; ret;");
        for (String kind : "i r".split(" ")) {
            fine("", "none", pushes(kind) + "pop; ret;");
            fine("", "none", pushes(kind) + "store 0; load 0; pop; ret;");
            String other = kind.equals("i") ? "r" : "i";
            String result = kind.equals("i") ? "int" : "ref";
            fine("", result, pushes(kind) + "dup; pop; ret;");
            fine("", result, pushes(kind) + "dup; swap; ret;");
            fine("", result, pushes(kind + other) + "swap; ret;");
            faulty("", result, pushes(other + kind) + "swap; ^ret;");
            faulty("", "none", pushes(kind) + "dup; pop; pop; ^pop; ret;");
            faulty("", "none", pushes(kind + other) + "swap; pop; pop; ^pop; ret;");
        }
    }

    private static void moreThan16() {
        Bench.sentence(4, "or would have more than 16,");
        for (String row : TAKES) {
            String[] told = row.split(":", -1);
            String takes = told[1];
            if (told[2].length() > takes.length()) {
                String most = TextTest.many("null; ", 15 - takes.length()) + pushes(takes);
                fine("", "none", most + told[0] + "; ret;");
                faulty("", "none", "null; " + most + "^" + told[0] + "; ret;");
            } else if (!told[0].endsWith(" x")) {
                fine("", "none", TextTest.many("null; ", 16 - takes.length()) + pushes(takes) + told[0] + "; ret;");
            }
        }
        fine("int", "none", TextTest.many("null; ", 15) + "load 0; ret;");
        faulty("int", "none", TextTest.many("null; ", 16) + "^load 0; ret;");
        fine("", "none", TextTest.many("null; ", 15) + "dup; ret;");
        faulty("", "none", TextTest.many("null; ", 16) + "^dup; ret;");
        fine("", "none", TextTest.many("null; ", 15) + "push 1; swap; ret;");
        faulty("", "none", TextTest.many("push 1; ", 16) + "^source 5; ret;");
    }

    private static void localsThatMayBeOther() {
        Bench.sentence(4, "or a local that it loads or incs may be anything but what it must be;");
        for (int k = 0; k < 16; k++) {
            faulty("", "none", "^load " + k + "; ret;");
            faulty("", "none", "^inc " + k + " 1; ret;");
            faulty("", "none", "null; store " + k + "; ^inc " + k + " 1; ret;");
            fine("", "none", "push 1; store " + k + "; inc " + k + " 1; load " + k + "; neg; ret;");
            fine("", "none", "null; store " + k + "; load " + k + "; length; ret;");
            faulty("", "none", "push 1; store " + (k + 1) % 16 + "; ^load " + k + "; ret;");
        }
        Bench.sentence(4, "(load k takes an int if the local may be an int alone, a ref if a ref alone.)");
        String[] ways = {"", "push 1; store 3; ", "null; store 3; "};
        for (int one = 0; one < 3; one++) {
            for (int other = 0; other < 3; other++) {
                String items = ways[one] + "push 1; ifeq x; " + ways[other] + "x: ";
                int first = one;
                int second = other == 0 ? one : other;
                boolean alone = first == second && first != 0;
                if (alone) {
                    fine("", "none", items + "load 3; ret;");
                    fine("", first == 1 ? "int" : "ref", items + "load 3; ret;");
                    faulty("", first == 1 ? "ref" : "int", items + "load 3; ^ret;");
                } else {
                    faulty("", "none", items + "^load 3; ret;");
                }
                if (alone && first == 1) {
                    fine("", "none", items + "inc 3 1; ret;");
                } else {
                    faulty("", "none", items + "^inc 3 1; ret;");
                }
            }
        }
    }

    private static void rets() {
        Bench.sentence(4, "for ret: a METHOD with a RESULT needs it on top;");
        faulty("", "int", "^ret;");
        faulty("", "ref", "^ret;");
        faulty("", "int", "push 1; null; ^ret;");
        faulty("", "ref", "null; push 1; ^ret;");
        Bench.sentence(4, "ret of a METHOD without a RESULT takes any STACK; with one the RESULT on top, anything below.");
        fine("", "none", "ret;");
        for (int more = 0; more < 16; more++) {
            String below = TextTest.many(more % 2 == 0 ? "push 1; " : "null; ", more);
            fine("", "none", below + "push 1; ret;");
            fine("", "none", below + "null; ret;");
            fine("", "int", below + "push 1; ret;");
            fine("", "ref", below + "null; ret;");
        }
    }

    private static void callsAndVirts() {
        Bench.sentence(4, "virt and call need theirs, the last one on top.");
        fine("", "none", "push 1; null; null; call A m; ret;");
        faulty("", "none", "null; null; push 1; ^call A m; ret;");
        faulty("", "none", "null; null; ^call A m; ret;");
        faulty("", "none", TextTest.many("push 1; ", 5) + "^call A k; ret;");
        fine("", "none", TextTest.many("push 1; ", 16) + "call A k; ret;");
        fine("", "none", "null; push 1; push 1; null; virt A w; ret;");
        faulty("", "none", "push 1; push 1; null; ^virt A w; ret;");
        faulty("", "none", "null; null; push 1; push 1; ^virt A w; ret;");
        faulty("", "none", "push 1; ^virt A v; ret;");
        faulty("", "none", "^virt A v; ret;");
    }

    private static void orderOfOperands() {
        Bench.sentence(4, "put takes the ref below the VALUE; iput, rput the ref, the index, the VALUE on top; virt the ref below its KINDS.");
        fine("", "none", "null; push 1; put A a; ret;");
        faulty("", "none", "push 1; null; ^put A a; ret;");
        fine("", "none", "null; push 1; push 2; iput; ret;");
        faulty("", "none", "push 1; push 2; null; ^iput; ret;");
        faulty("", "none", "push 1; null; push 2; ^iput; ret;");
        fine("", "none", "null; push 1; null; rput; ret;");
        faulty("", "none", "null; null; push 1; ^rput; ret;");
        faulty("", "none", "push 1; null; null; ^rput; ret;");
        fine("", "none", "null; push 1; push 1; null; virt A w; ret;");
        faulty("", "none", "push 1; push 1; null; null; ^virt A w; ret;");
    }

    private static void whatComesBehind() {
        Bench.sentence(4, "the next INSTRUCTION (not behind goto, ret, throw), the LABEL;");
        fine("", "none", "goto x; add; x: ret;");
        fine("", "none", "ret; add;");
        fine("", "none", "null; throw; add;");
        fine("", "none", "x: goto x;");
        fine("", "int", "push 1; ret; y: pop; x: ret;");
        for (String row : TAKES) {
            String[] told = row.split(":", -1);
            boolean jumps = told[0].endsWith(" x");
            if (!told[0].equals("goto x")) {
                String drop = told[2].isEmpty() ? "; " : "; store 0; ";
                faulty("", "none", (jumps ? "goto y; x: ret; y: " : "") + pushes(told[1]) + told[0] + drop + "^add; ret;");
            }
            if (jumps) {
                faulty("", "none", "goto y; x: ^add; y: " + pushes(told[1]) + told[0] + "; ret;");
            }
        }
    }

    private static void tryBounds() {
        Bench.sentence(4, "and the INSTRUCTION at each try that it lies in (not ahead of from, ahead of to), with the locals ahead of it and a STACK of one ref.");
        // Local 0 is an int ahead of t and a ref behind the second store, so that h tells which INSTRUCTIONS come to it.
        String items = "push 1; store 0; f: goto t; t: null; store 0; u: goto e; h: @; ret; e: ret; ";
        fine("", "none", items.replace("@", "load 0; neg") + "try f t h Any;");
        fine("", "none", items.replace("@", "load 0; neg") + "try f u h Any;");
        fine("", "none", items.replace("@", "load 0; length") + "try u h h Any;");
        faulty("", "none", items.replace("@", "load 0; ^length") + "try f t h Any;");
        faulty("", "none", items.replace("@", "load 0; ^neg") + "try u h h Any;");
        faulty("", "none", items.replace("@", "^load 0") + "try t h h Any;");
        faulty("", "none", items.replace("@", "^load 0") + "try f t h Any; try u h h Any;");
        fine("", "none", items.replace("@", "load 0") + "try f u h Any; try f t h Fault;");
        // Local 0 is unset ahead of from, and stays so where nothing that it lies in has set it.
        faulty("", "none", "a: push 1; store 0; b: ret; h: ^load 0; ret; try a b h Any;");
        fine("", "none", "push 1; store 0; a: ret; b: h: load 0; neg; ret; try a b h Any;");
        // A STACK of one ref, whatever there was.
        fine("", "ref", "push 1; push 2; a: push 3; b: null; ret; h: ret; try a b h Any;");
        faulty("", "none", "push 1; push 2; a: push 3; b: null; ret; h: ^neg; ret; try a b h Any;");
        faulty("", "none", "push 1; null; a: goto b; b: ret; h: pop; ^pop; ret; try a b h Any;");
        // What is not come to comes to nothing.
        fine("", "none", "ret; a: null; b: ret; h: neg; try a b h Any;");
    }

    private static void everyCodeComesToItsTries() {
        Bench.sentence(4, "Every INSTRUCTION comes to its tries' at, also goto, ret, throw and those that throw nothing.");
        for (String row : TAKES) {
            String[] told = row.split(":", -1);
            String label = told[0].endsWith(" x") ? "x: " : "";
            faulty("", "none", pushes(told[1]) + "a: " + told[0] + "; b: " + label + "ret; h: ^neg; ret; try a b h Any;");
        }
        String[] others = {"a: ret; b:", "null; a: throw; b:", "push 1; a: store 3; b: ret;", "push 1; a: pop; b: ret;", "push 1; a: dup; b: ret;", "null; null; a: swap; b: ret;",
            "push 1; store 2; a: load 2; b: ret;", "push 1; store 2; a: inc 2 1; b: ret;", "a: x: goto x; b:"};
        for (String items : others) {
            faulty("", "none", items + " h: ^neg; ret; try a b h Any;");
        }
        // Every one of the tries, not the first alone, whatever its class.
        faulty("", "none", "a: ret; b: h: pop; ret; k: ^neg; ret; try a b h Any; try a b k NullFault;");
        faulty("", "none", "a: ret; b: h: pop; ret; k: ^neg; ret; " + TextTest.many("try a b h Any; ", 7) + "try a b k CastFault;");
    }

    private static void localsAheadOfIt() {
        Bench.sentence(4, "with the locals ahead of it and a STACK of one ref.");
        fine("int", "none", "null; a: store 0; b: ret; h: load 0; neg; ret; try a b h Any;");
        faulty("int", "none", "null; a: store 0; b: ret; h: load 0; ^length; ret; try a b h Any;");
        faulty("int", "none", "null; a: store 0; push 1; b: ret; h: ^load 0; ret; try a b h Any;");
    }

    private static void endOfAMethod() {
        Bench.sentence(4, "To come to the end of a METHOD is FAULT 5 at its } .");
        faulty("", "none", "push 1; ^");
        faulty("", "none", "goto x; y: ret; x: push 1; pop; ^");
        faulty("", "none", "push 1; ifeq x; ret; y: x: ^");
        faulty("", "none", TextTest.many("push 1; pop; ", 50) + "^");
        fine("", "none", TextTest.many("push 1; pop; ", 49) + "null; throw;");
        Bench.sentence(4, "to come to it is FAULT 5 at } .");
        faulty("", "none", "goto x; x: ^");
        faulty("", "none", "push 1; ifgt x; x: ^");
        faulty("", "none", "a: ret; try a e e Any; e: ^");
        fine("", "none", "ret; goto e; a: try a e e Any; push 1; e:");
        fine("", "none", "push 1; ifgt x; ret; x: ret; e:");
    }

    private static void anotherStack() {
        Bench.sentence(4, "To come to an INSTRUCTION with another STACK than before is FAULT 5 at it.");
        faulty("", "none", "x: ^push 1; goto x;");
        faulty("", "none", "push 1; x: ^pop; goto x;");
        faulty("", "none", "push 1; push 1; ifeq x; pop; x: ^ret;");
        faulty("", "none", "push 1; push 1; ifeq x; pop; null; x: ^ret;");
        faulty("", "none", "null; push 1; push 1; ifeq x; swap; x: ^ret;");
        fine("", "none", "null; push 1; push 1; ifeq x; swap; swap; x: ret;");
        fine("", "none", "push 1; push 1; ifeq x; neg; dup; add; x: ret;");
        faulty("", "none", "a: ^null; b: pop; ret; try a b a Any;");
        fine("", "none", "null; a: pop; null; b: goto a; try a b a Any;");
        faulty("", "none", TextTest.many("push 1; ", 15) + "push 1; ifeq x; null; x: ^ret;");
        // The deepest kind alone differs.
        faulty("", "none", "push 1; ifeq x; push 1; goto y; x: null; y: ^" + TextTest.many("push 1; ", 15) + "ret;");
        fine("", "none", "push 1; ifeq x; push 1; goto y; x: push 2; y: " + TextTest.many("push 1; ", 15) + "ret;");
    }

    private static void byAnyWay() {
        Bench.sentence(4, "Locals may be what they may be by any way.");
        fine("", "none", "push 1; ifeq x; push 1; store 0; goto y; x: push 2; store 0; y: load 0; neg; ret;");
        faulty("", "none", "push 1; ifeq x; push 1; store 0; goto y; x: null; store 0; y: ^load 0; ret;");
        faulty("", "none", "push 1; ifeq x; push 1; store 0; goto y; x: push 1; store 1; y: ^load 0; ret;");
        fine("", "none", "push 1; ifeq x; push 1; store 0; goto y; x: null; store 0; y: push 1; store 0; load 0; ret;");
        // Nothing is asked of a local that isn't loaded.
        fine("", "none", "push 1; ifeq x; push 1; store 0; goto y; x: null; store 0; y: ret;");
    }

    private static void somethingMore() {
        Bench.sentence(4, "Something is new the first time, or when a local may be something more.");
        // Each is looked at once more for what came to it later.
        faulty("int", "none", "x: ^load 0; pop; null; store 0; goto x;");
        fine("int", "none", "x: load 0; pop; push 1; store 0; goto x;");
        fine("", "none", "x: push 1; store 0; load 0; pop; null; store 0; load 0; pop; goto x;");
        faulty("int, int, int", "none", "x: load 0; pop; load 1; store 0; ^load 2; store 1; null; store 2; goto x;");
        fine("int, int, int", "none", "x: load 0; pop; load 1; store 0; load 2; store 1; push 1; store 2; goto x;");
        faulty("ref, int", "none", "x: ^load 0; length; pop; push 1; ifeq y; goto x; y: load 1; store 0; goto x;");
        faulty("", "none", "push 1; store 15; x: ^load 15; pop; push 1; ifeq y; ret; y: null; store 15; goto x;");
        // An unset local is something more, too, and so is a kind behind an unset one.
        faulty("", "none", "goto y; x: ^load 1; pop; ret; y: push 1; ifeq z; goto x; z: push 1; store 1; goto x;");
        faulty("", "none", "push 1; ifeq z; push 1; store 1; x: ^load 1; pop; ret; z: goto x;");
        // A way that brings nothing new is done with: each of these ends.
        fine("int, ref", "none", "x: load 0; ifeq x; load 1; ifnull x; y: load 0; ifeq y; goto x;");
        StringBuilder all = new StringBuilder("x: ");
        for (int k = 0; k < 16; k++) {
            all.append("push 1; ifeq l").append(k).append("; null; store ").append(k).append("; l").append(k).append(": ");
        }
        fine("", "none", all + "goto x;");
        fine("", "none", all + "push 1; store 0; goto x;");
        faulty("", "none", all + "^load 15; goto x;");
    }

    /** Each INSTRUCTION of the try brings one thing more of one local to x, and all behind x is looked at anew. */
    private static void manyTimesMore() {
        Bench.sentence(4, "Then, as long as there is one that was come to with something new, the lowest of them:");
        StringBuilder more = new StringBuilder();
        for (int k = 1; k < 16; k++) {
            more.append("null;store ").append(k).append(";push 1;store ").append(k).append(";");
        }
        String head = "class A{method f(int)none{null;x:pop;";
        String rest = TextTest.many("push 1;pop;", 15) + "a:" + more;
        Bench x = new Bench();
        x.faultAt(5, head + "^load 0;pop;" + rest + "null;store 0;push 1;b:pop;ret;try a b x Any;}}");
        x.right(head + "load 0;pop;" + rest + "null;store 0;b:push 1;pop;ret;try a b x Any;}}", 1);
        Bench.due("INSTRUCTIONS", x.house.method(0, 4), 99);
    }

    private static void stores() {
        Bench.sentence(4, "store makes the local just this kind.");
        fine("ref", "none", "push 1; store 0; inc 0 1; ret;");
        fine("int", "none", "null; store 0; load 0; length; ret;");
        faulty("ref", "none", "push 1; store 0; load 0; ^length; ret;");
        faulty("int", "none", "null; store 0; ^inc 0 1; ret;");
        fine("", "none", "push 1; ifeq x; null; store 15; x: push 1; store 15; inc 15 1; ret;");
    }

    private static void lowestFirst() {
        Bench.sentence(4, "Then, as long as there is one that was come to with something new, the lowest of them:");
        faulty("", "none", "goto y; x: ^add; y: push 1; ifeq x; sub;");
        faulty("", "none", "goto y; x: ret; z: ^add; y: push 1; ifeq z; goto w; w: sub;");
        faulty("", "none", "push 1; ifeq z; push 1; ifeq y; ^add; y: sub; z: mul;");
        faulty("", "none", "push 1; ifeq y; goto z; x: ^add; y: goto x; z: ret;");
        // A lower one that may be something more goes ahead of a higher one that is new, and the other way round.
        faulty("", "none", "push 1; store 0; x: ^load 0; pop; null; store 0; push 1; ifeq x; add;");
        faulty("", "none", "push 1; store 0; x: push 2; pop; push 1; ifeq y; ^add; y: null; store 0; goto x;");
    }

    private static void orderBehind() {
        Bench.sentence(4, "then what comes behind, in the order next, LABEL, tries of the text.");
        // Two of what an INSTRUCTION comes to have a FAULT at once: the end, and one that had another STACK.
        faulty("", "none", "push 1; push 1; a: ifeq a; ^");
        faulty("", "none", "push 1; push 1; a: ^ifeq a; ret;");
        faulty("", "none", "push 1; push 1; ifeq n; push 1; push 1; ifeq e; n: ^ret; e:");
        faulty("", "none", "x: push 1; pop; a: goto e; b: try a b x Any; e: ^");
        faulty("", "none", "x: ^push 1; pop; a: goto y; b: y: ret; try a b x Any;");
        faulty("", "none", "x: ^push 1; a: goto x; b: try a b e Any; e:");
        faulty("", "none", "x: push 1; pop; a: push 1; b: try a b x Any; ^");
        faulty("", "none", "x: ^push 1; pop; a: push 1; b: ret; try a b x Any;");
        faulty("", "none", "x: push 1; pop; a: push 1; b: pop; ret; try a b e Any; try a b x Any; e: ^");
        faulty("", "none", "x: ^push 1; pop; a: push 1; b: pop; ret; try a b x Any; try a b e Any; e:");
    }

    private static void ownFirst() {
        Bench.sentence(4, "of an INSTRUCTION first its own STACK and locals are asked, then the STACK behind it (16), then what comes behind");
        faulty("", "none", "x: push 1; pop; a: ^add; b: goto x; try a b x Any;");
        faulty("", "none", "x: push 1; pop; a: ^load 0; b: goto x; try a b e Any; e:");
        faulty("", "none", "x: " + TextTest.many("push 1; ", 16) + "a: ^push 1; b: goto x; try a b x Any;");
        faulty("", "none", TextTest.many("push 1; ", 16) + "a: ^dup; b: try a b e Any; e:");
        faulty("", "none", "a: ^add; b: try a b e Any; e:");
        faulty("", "none", "null; a: ^ifeq e; b: try a b e Any; e:");
    }

    private static void methodsInOrder() {
        Bench.sentence(4, "METHODS are looked at (5) in order; the first FAULT 5 that is found ends it.");
        Bench x = new Bench();
        x.faultAt(5, "class A { method f() none { ret; } method g() none { ^add; } method h() none { } }");
        x.faultAt(5, "class A { method f() none { push 1; ^} method g() none { add; } }");
        x.faultAt(5, "class A { method f() none { ret; } } class B { virtual v() none { ^add; } } class C { method h() none { pop; } }");
        // Not the first by its place: the lower INSTRUCTION that is come to later.
        x.faultAt(5, "class A { method f() none { goto y; x: add; y: push 1; ifeq z; ^sub; z: goto x; } }");
        x.right("class A { " + TextTest.many("method m%() none { ret; } ", 24) + "}", 24);
        x.faultAt(5, "class A { " + TextTest.many("method m%() none { ret; } ", 23) + "method n() none { ^pop; } }");
    }

    private static void behindOtherFaults() {
        Bench.sentence(4, "Behind these, if there are none, the CODE of each METHOD, in order (5, at the INSTRUCTION's WORD; of the end of a METHOD at its } ):");
        Bench x = new Bench();
        x.faultAt(1, "class A { method f() none { add; } } class ^A { }");
        x.faultAt(2, "class A { method f() none { } method g() none { goto ^x; } }");
        x.faultAt(3, "class A { virtual v() none { } } class B : A { virtual ^v() int { } }");
        x.faultAt(4, "class A { method f() none { add; } method g() none { a: try ^a a a Any; ret; } }");
        x.faultAt(5, "class A { method f() none { x: y:\n ^add # add\n; } }");
        x.faultAt(5, "class A { method f() none { push 1; ^get A a; ret; } field a int; }");
        x.faultAt(5, "class A { method f() none { x: push 1 ; pop ; \t ^} }");
    }
}
