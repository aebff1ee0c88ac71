/** Promises 4 and 5: FAULTS, each at the sign ^, which is taken out. */
public final class FaultTest {
    private static final String CODE = "class A { method f() none { ";

    public static void main(String[] args) {
        toldAgain();
        noSuchClass();
        noSuchMember();
        noSuchLabel();
        otherVirtuals();
        emptyTries();
        firstOfSeveral();
        whatCountsOfNamesToldAgain();
        stackOfEach();
        locals();
        ways();
        triesInCode();
        orderInCode();
        Bench.finish();
    }

    private static void toldAgain() {
        Bench x = new Bench();
        x.faultAt(1, "class A { } class ^A { }");
        x.faultAt(1, "class A { } class B { } class ^A { } class A { }");
        for (String name : "Any Fault NullFault BoundsFault SizeFault DivideFault CastFault".split(" ")) {
            x.faultAt(1, "class ^" + name + " { }");
        }
        x.faultAt(1, "class A { field a int; field ^a int; }");
        x.faultAt(1, "class A { field a int; static ^a ref; }");
        x.faultAt(1, "class A { static a int; method ^a() none { ret; } }");
        x.faultAt(1, "class A { method a() none { ret; } virtual ^a() none { ret; } }");
        x.faultAt(1, "class A { virtual a() none { ret; } virtual ^a(int) none { ret; } }");
        x.right("class A { field a int; method A() none { ret; } } class B : A { static a int; } class C : B { virtual a() none { ret; } field A ref; }", 2);
        String statics = TextTest.many("static t% int;", 16);
        String methods = TextTest.many("method m%()none{ret;}", 23);
        String full = "";
        for (int c = 0; c < 12; c++) {
            full = full + "class C" + c + "{" + (c == 11 ? statics + methods : "") + TextTest.many("field f% int;", 8) + (c == 11 ? "method ^f0()none{ret;}" : "") + "}";
        }
        x.faultAt(1, full);
        x.right(full.replace("^f0", "g"), 24);
        x.faultAt(1, CODE + "x: ret; ^x: ret; } }");
        x.faultAt(1, CODE + "x: ^x: ret; } }");
        x.right(CODE + "x: ret; A: f: } method g() none { x: ret; } }", 2);
    }

    private static void noSuchClass() {
        Bench x = new Bench();
        x.faultAt(2, "class A : ^A { }");
        x.faultAt(2, "class A : ^B { } class B { }");
        x.faultAt(2, "class A : ^C { } class B { }");
        x.right("class A : Any { } class B : A { } class C : DivideFault { } class D : C { }", 0);
        x.faultAt(2, CODE + "new ^B; ret; } }");
        x.faultAt(2, CODE + "ret; is ^B; } }");
        x.faultAt(2, CODE + "ret; as ^f; } }");
        x.faultAt(2, CODE + "get ^B b; ret; } }");
        x.faultAt(2, CODE + "puts ^B b; ret; } }");
        x.faultAt(2, CODE + "call ^B b; ret; } }");
        x.faultAt(2, CODE + "x: pop; y: ret; try x y y ^B; } }");
        x.right(CODE + "new B; is B; ret; } } class B { }", 1);
        x.right(CODE + "new B; new Any; new CastFault; ret; } } class B { }", 1);
    }

    private static void noSuchMember() {
        Bench x = new Bench();
        String rest = " } class B { field a int; static s int; method m() none { ret; } virtual v() none { ret; } } class C : B { } ";
        x.right(CODE + "new C; get C a; new C; push 1; put B a; gets C s; puts B s; call C m; new C; virt C v; ret; }" + rest, 3);
        x.faultAt(2, CODE + "null; get B ^s; ret; }" + rest);
        x.faultAt(2, CODE + "null; put B ^m; ret; }" + rest);
        x.faultAt(2, CODE + "gets B ^a; ret; }" + rest);
        x.faultAt(2, CODE + "puts B ^v; ret; }" + rest);
        x.faultAt(2, CODE + "call B ^v; ret; }" + rest);
        x.faultAt(2, CODE + "null; virt B ^m; ret; }" + rest);
        x.faultAt(2, CODE + "null; get A ^a; ret; }" + rest);
        x.faultAt(2, CODE + "null; get Any ^a; ret; }" + rest);
        x.faultAt(2, CODE + "call Fault ^m; ret; }" + rest);
        x.faultAt(2, CODE + "ret; null; get B ^x; }" + rest);
        x.faultAt(2, CODE + "gets B ^t; ret; }" + rest + "class D : B { static t int; }");
        x.right(CODE + "gets D s; ret; }" + rest + "class D : B { field s ref; }", 3);
    }

    private static void noSuchLabel() {
        Bench x = new Bench();
        x.faultAt(2, CODE + "goto ^x; } }");
        x.faultAt(2, CODE + "x: ret; } method g() none { goto ^x; } }");
        x.faultAt(2, CODE + "goto ^A; } }");
        x.faultAt(2, CODE + "ret; try ^x y z Any; y: z: } }");
        x.faultAt(2, CODE + "ret; try x ^y z Any; x: z: } }");
        x.faultAt(2, CODE + "ret; try x y ^z Any; x: y: } }");
        x.faultAt(2, CODE + "x: ret; y: try y x ^z B; } }");
        x.faultAt(2, CODE + "ret; same ^z; } }");
    }

    private static void otherVirtuals() {
        Bench x = new Bench();
        x.right("class A { virtual v(int, ref) int { push 1; ret; } } class B : A { virtual v(int, ref) int { push 1; ret; } }", 2);
        x.faultAt(3, "class A { virtual v(int, ref) int { push 1; ret; } } class B : A { virtual ^v(ref, int) int { push 1; ret; } }");
        x.faultAt(3, "class A { virtual v(int) int { push 1; ret; } } class B : A { virtual ^v(int, int) int { push 1; ret; } }");
        x.faultAt(3, "class A { virtual v(int) int { push 1; ret; } } class B : A { } class C : B { virtual ^v(int) none { ret; } }");
        x.right("class A { virtual v(int) int { push 1; ret; } } class B { virtual v() none { ret; } }", 2);
        x.right("class A { method v(int) int { push 1; ret; } } class B : A { virtual v() none { ret; } }", 2);
        x.right("class A { virtual v(int) int { push 1; ret; } } class B : A { method v() none { ret; } }", 2);
        x.faultAt(3, "class A { virtual v() none { ret; } } class B : A { virtual ^v() int { push 1; ret; } } class C : B { virtual v() int { push 1; ret; } }");
        x.faultAt(3, "class A { virtual v() none { ret; } } class B : A { field v int; } class C : B { virtual ^v() int { push 1; ret; } }");
    }

    private static void emptyTries() {
        Bench x = new Bench();
        x.faultAt(4, CODE + "x: ret; y: pop; ret; try ^y x y Any; } }");
        x.faultAt(4, CODE + "x: ret; y: pop; ret; try ^x x y Any; } }");
        x.faultAt(4, CODE + "x: y: ret; z: pop; ret; try ^x y z Any; } }");
        x.faultAt(4, CODE + "try ^y x y B; x: ret; y: pop; ret; } }");
        x.right(CODE + "x: goto y; z: pop; ret; y: ret; w: try x w z Any; } }", 1);
    }

    private static void firstOfSeveral() {
        Bench x = new Bench();
        x.faultAt(2, "class A : ^B { field a int; field a int; } class A { }");
        x.faultAt(1, "class A { field a int; field ^a int; } class B : C { }");
        x.faultAt(2, CODE + "new ^B; } } class A { }");
        x.faultAt(1, "class A { virtual v() none { ret; } } class B : A { field v int; virtual ^v() int { push 1; ret; } }");
        x.faultAt(2, CODE + "add; } method g() none { goto ^x; } }");
        x.faultAt(2, "class A { method f() none { get ^B c; } }");
        x.wrongAt("class A : B { } ^x");
        x.faultAt(5, CODE + "^add; } method g() none { sub; } }");
    }

    /** The first one counts for others. */
    private static void whatCountsOfNamesToldAgain() {
        Bench x = new Bench();
        x.faultAt(2, CODE + "gets B ^s; ret; } } class B { } class B { static s int; }");
        x.faultAt(1, CODE + "gets B s; ret; } } class B { static s int; } class ^B { }");
        x.faultAt(2, CODE + "new C; get C ^a; ret; } } class B { } class C : D { } class D { field a int; }");
        x.faultAt(1, CODE + "null; get B a; ret; } } class B { static a int; field ^a int; }");
        x.faultAt(4, CODE + "ret; y: pop; ret; try ^x y y Any; x: ret; } }");
        x.faultAt(1, CODE + "y: pop; ret; x: ret; try y x y Any; ^y: ret; } }");
        x.faultAt(4, CODE + "x: ret; try ^y x y Any; y: pop; ret; x: } }");
    }

    private static void stackOfEach() {
        String[] takeInts = "neg; sink 1; clean 1; mark 1; ints; refs; ifeq x; ifne x; iflt x; ifge x; ifgt x; ifle x; store 1; pop; dup".split("; ");
        for (String code : takeInts) {
            new Bench().codeFault("", "none", "^" + code + "; x: ret; } }");
        }
        for (String code : takeInts) {
            if (!code.equals("store 1") && !code.equals("pop") && !code.equals("dup")) {
                new Bench().codeFault("", "none", "null; ^" + code + "; x: ret; } }");
            }
        }
        for (String code : "add sub mul div rem and or xor shl shr ushr".split(" ")) {
            new Bench().codeFault("", "none", "push 1; ^" + code + "; ret; } }");
            new Bench().codeFault("", "none", "null; push 1; ^" + code + "; ret; } }");
            new Bench().codeFault("", "none", "push 1; null; ^" + code + "; ret; } }");
            new Bench().code("", "int", "push 1; push 1; " + code + "; ret;");
        }
        for (String code : "cmpeq cmpne cmplt cmpge cmpgt cmple".split(" ")) {
            new Bench().codeFault("", "none", "push 1; ^" + code + " x; x: ret; } }");
            new Bench().codeFault("", "none", "null; null; ^" + code + " x; x: ret; } }");
            new Bench().code("", "none", "push 1; push 1; " + code + " x; x: ret;");
        }
        for (String code : "ifnull x; ifsome x; length; is A; as A; throw".split("; ")) {
            new Bench().codeFault("", "none", "^" + code + "; x: ret; } }");
            new Bench().codeFault("", "none", "push 1; ^" + code + "; x: ret; } }");
        }
        for (String code : "same x; other x".split("; ")) {
            new Bench().codeFault("", "none", "null; ^" + code + "; x: ret; } }");
            new Bench().codeFault("", "none", "push 1; null; ^" + code + "; x: ret; } }");
            new Bench().codeFault("", "none", "null; push 1; ^" + code + "; x: ret; } }");
        }
        Bench x = new Bench();
        x.codeFault("", "none", "push 1; ^swap; ret; } }");
        x.codeFault("", "none", "push 1; push 1; ^iget; ret; } }");
        x.codeFault("", "none", "null; null; ^rget; ret; } }");
        x.codeFault("", "none", "null; push 1; null; ^iput; ret; } }");
        x.codeFault("", "none", "null; push 1; push 1; ^rput; ret; } }");
        x.codeFault("", "none", "null; push 1; iget; ^length; ret; } }");
        x.codeFault("", "none", "null; push 1; rget; ^neg; ret; } }");
        x.codeFault("", "none", "null; is A; ^length; ret; } }");
        x.codeFault("", "none", "new A; ^neg; ret; } }");
        x.codeFault("", "none", "source 1; ^length; ret; } }");
        x.codeFault("", "none", "push 1; ints; ^neg; ret; } }");
        x.codeFault("", "none", "null; push 1; swap; ^neg; ret; } }");
        x.codeFault("", "int", "^ret; } }");
        x.codeFault("", "int", "null; ^ret; } }");
        x.codeFault("", "ref", "push 1; ^ret; } }");
        x.code("", "int", "null; null; push 1; ret;");
        x.code("", "none", "null; push 1; ret;");
        x.code("", "none", "ret;");
        String rest = "field i int; field r ref; static s int; static t ref; method m(int, ref) ref { null; ret; } virtual v(int) none { ret; } }";
        x.codeFault("", "none", "push 1; ^get A i; ret; } " + rest);
        x.codeFault("", "none", "null; get A i; ^length; ret; } " + rest);
        x.codeFault("", "none", "null; get A r; ^neg; ret; } " + rest);
        x.codeFault("", "none", "null; null; ^put A i; ret; } " + rest);
        x.codeFault("", "none", "push 1; push 1; ^put A i; ret; } " + rest);
        x.codeFault("", "none", "null; push 1; ^put A r; ret; } " + rest);
        x.codeFault("", "none", "gets A s; ^length; ret; } " + rest);
        x.codeFault("", "none", "gets A t; ^neg; ret; } " + rest);
        x.codeFault("", "none", "null; ^puts A s; ret; } " + rest);
        x.codeFault("", "none", "push 1; ^puts A t; ret; } " + rest);
        x.codeFault("", "none", "null; push 1; ^call A m; ret; } " + rest);
        x.codeFault("", "none", "null; ^call A m; ret; } " + rest);
        x.codeFault("", "none", "push 1; null; call A m; ^neg; ret; } " + rest);
        x.codeFault("", "none", "push 1; ^virt A v; ret; } " + rest);
        x.codeFault("", "none", "push 1; null; ^virt A v; ret; } " + rest);
        x.codeFault("", "none", "null; push 1; virt A v; ^pop; ret; } " + rest);
        x.codeFault("", "none", TextTest.many("null; ", 16) + "^null; ret; } }");
        x.codeFault("", "none", TextTest.many("null; ", 16) + "^dup; ret; } }");
        x.code("", "none", TextTest.many("null; ", 16) + "swap; pop; push 1; pop; ret;");
        Bench.due("the most", x.house.method(0, 5), 16);
        x.codeFault("", "none", TextTest.many("push 1; ", 16) + "add; push 1; ^load 0; ret; } }");
    }

    private static void locals() {
        Bench x = new Bench();
        x.codeFault("", "none", "^load 0; ret; } }");
        x.codeFault("", "none", "^inc 0 1; ret; } }");
        x.codeFault("ref", "none", "^inc 0 1; ret; } }");
        x.codeFault("int", "none", "^load 1; ret; } }");
        x.codeFault("int, ref", "none", "load 1; ^neg; ret; } }");
        x.codeFault("int, ref", "none", "load 0; ^length; ret; } }");
        x.faultAt(5, "class A { virtual f(int) none { load 0; ^neg; ret; } }");
        x.faultAt(5, "class A { virtual f(int) none { load 1; neg; ^load 2; ret; } }");
        x.codeFault("int", "none", "null; store 0; load 0; ^neg; ret; } }");
        x.code("int", "none", "null; store 0; load 0; length; store 0; inc 0 1; ret;");
        x.codeFault("", "none", "push 1; ifeq x; push 1; store 3; x: ^load 3; ret; } }");
        x.codeFault("int", "none", "push 1; ifeq x; null; store 0; x: ^inc 0 1; ret; } }");
        x.code("int", "none", "push 1; ifeq x; null; store 0; x: push 1; store 0; load 0; ret;");
        x.codeFault("int", "none", "x: ^load 0; pop; null; store 0; goto x; } }");
        x.code("int", "none", "x: push 1; store 0; load 0; pop; null; store 0; goto x;");
    }

    private static void ways() {
        Bench x = new Bench();
        x.codeFault("", "none", "^} }");
        x.codeFault("", "none", "x: ^} }");
        x.codeFault("", "none", "push 1; ^} }");
        x.codeFault("", "none", "goto x; x: ^} }");
        x.codeFault("", "none", "push 1; ifeq x; ret; x: ^} }");
        x.codeFault("", "none", "push 1; ifeq x; push 1; pop; x: goto y; y: ^} }");
        x.codeFault("", "none", "x: ^push 1; goto x; } }");
        x.codeFault("", "none", "push 1; ifeq x; push 1; x: ^ret; } }");
        x.codeFault("", "none", "push 1; dup; ifeq x; pop; null; x: ^ret; } }");
        x.code("", "none", "ret; add; goto x; x: pop;");
        x.code("", "none", "goto y; x: ret; y: goto x;");
        x.code("", "none", "null; throw; neg;");
        x.code("", "none", "x: goto x;");
        x.codeFault("", "none", "goto y; x: ^add; y: goto x; } }");
    }

    private static void triesInCode() {
        Bench x = new Bench();
        x.code("", "none", "a: push 1; b: ret; h: pop; ret; try a b h Any;");
        x.codeFault("", "none", "a: push 1; b: ret; h: ^neg; ret; try a b h Any; } }");
        x.codeFault("", "none", "a: ret; try a b b Any; b: ^} }");
        x.codeFault("", "none", "a: goto b; b: ret; h: ^neg; ret; try a b h Any; } }");
        x.codeFault("", "none", "a: ret; b: h: ^neg; ret; try a b h Any; } }");
        x.codeFault("", "none", "a: null; throw; b: h: ^neg; ret; try a b h Any; } }");
        x.code("", "none", "ret; a: push 1; b: h: neg; ret; try a b h Any;");
        x.codeFault("", "none", "a: push 1; store 0; b: ret; h: ^load 0; ret; try a b h Any; } }");
        x.code("", "none", "push 1; store 0; a: null; pop; b: ret; h: load 0; ret; try a b h Any;");
        x.codeFault("", "none", "push 1; store 0; a: null; store 0; null; pop; b: ret; h: ^load 0; ret; try a b h Any; } }");
        x.code("", "none", "push 1; store 0; a: null; store 0; b: null; pop; ret; h: load 0; ret; try a b h Any;");
        x.codeFault("", "none", "a: ^push 1; b: ret; try a b a Any; } }");
        x.code("", "none", "null; a: throw; b: try a b a Any;");
    }

    /** The lowest that is come to with something new is looked at first; of one, next, LABEL, tries. */
    private static void orderInCode() {
        Bench x = new Bench();
        x.codeFault("", "none", "goto y; x: ret; neg; y: push 1; ifeq z; ^add; z: sub; } }");
        x.codeFault("", "none", "push 1; ifeq z; push 1; ifeq y; ^add; y: sub; z: mul; } }");
        x.codeFault("", "none", "push 1; push 1; ifeq y; x: ^add; y: pop; goto x; } }");
        x.codeFault("", "none", "goto b; a: ^add; b: push 1; ifeq a; sub; } }");
        x.codeFault("", "none", "push 1; a: ^ifeq a; ret; } }");
        x.codeFault("", "none", "a: null; b: ^neg; ret; h: add; try a b h Any; } }");
        x.codeFault("", "none", "push 1; push 1; a: ifeq b; ret; b: pop; h: ^ret; try a b h Any; } }");
        x.faultAt(5, "class A { method f() none { ret; } method g() none { ^} method h() none { add; } }");
    }
}
