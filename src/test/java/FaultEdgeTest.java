/** Promises 4 and 5, FAULTS 1 to 4 (at the sign ^): a test for each sentence that names a boundary case. */
public final class FaultEdgeTest {
    private static final String CODE = "class A { method f() none { ";
    private static final String VOID = "() none { ret; } ";

    public static void main(String[] args) {
        toldAgain();
        differentNames();
        mostMembers();
        firstClassesAgain();
        parents();
        classesAnywhere();
        members();
        labels();
        otherVirtuals();
        nearestVirtualAbove();
        emptyTries();
        placeOfTheFirst();
        triesWithoutLabels();
        firstByPlace();
        leastKind();
        wrongFirst();
        numbering();
        firstCounts();
        parentThatIsNone();
        nearestFields();
        nearestMethods();
        Bench.finish();
    }

    private static void toldAgain() {
        Bench.sentence(4, "1 a NAME told again: a class; in a class a MEMBER; in a METHOD a LABEL (at the second one).");
        Bench x = new Bench();
        x.faultAt(1, "class A { } class ^A { }");
        x.faultAt(1, "class A { } class B { } class ^A : B { }");
        x.faultAt(1, "class A { } class ^A { } class A { } class A { }");
        x.faultAt(1, TextTest.many("class C%{}", 11) + "class ^C0{}");
        x.right("class A { } class a { } class AA { } class A1 { }", 0);
        x.faultAt(1, CODE + "x: ret; ^x: } }");
        x.faultAt(1, CODE + "x: ^x: ret; x: } }");
        x.right(CODE + "x: X: xx: x0: ret; } method g() none { x: X: ret; } virtual v() none { x: ret; } }", 3);
        x.right("class x { field x int; method f() none { x: f: x2: ret; } } class f { method f() none { f: ret; } }", 2);
        x.faultAt(1, CODE + TextTest.many("l%:", 700) + "^l0: ret; } }");
    }

    private static void differentNames() {
        Bench.sentence(4, "MEMBERS of all sorts of one class have different NAMES; those of classes above may be told again.");
        String[] sorts = {"field a int; ", "static a ref; ", "method a" + VOID, "virtual a" + VOID};
        Bench x = new Bench();
        for (String first : sorts) {
            for (String second : sorts) {
                x.faultAt(1, "class A { " + first + second.replaceFirst(" a", " ^a") + "}");
                x.faultAt(1, "class A { field b int; " + first + "static c int; " + second.replaceFirst(" a", " ^a") + first + "}");
                int methods = (first.contains("{") ? 1 : 0) + (second.contains("{") ? 1 : 0);
                x.right("class A { " + first + "} class B : A { " + second + "}", methods);
                x.right("class A { " + first + "} class B { } class C : B { " + second + "}", methods);
                x.right("class A { " + first + "} class B : A { } class C : B { " + second + "}", methods);
            }
        }
        x.faultAt(1, "class A { " + TextTest.many("field f%e int; ", 8) + TextTest.many("static s% int; ", 16) + TextTest.many("method m%" + VOID, 23) + "virtual ^f7e" + VOID + "}");
    }

    /** As many MEMBERS as a TEXT can have: the last one is looked at, too. */
    private static void mostMembers() {
        Bench.sentence(4, "in a class a MEMBER;");
        StringBuilder text = new StringBuilder();
        for (int c = 0; c < 12; c++) {
            text.append("class C").append(c).append("{").append(TextTest.many("field f% int;", 8)).append(c < 11 ? "}" : "");
        }
        text.append(TextTest.many("static s% int;", 16)).append(TextTest.many("method m%()none{ret;}", 23));
        Bench x = new Bench().right(text + "virtual n()none{ret;}}", 24);
        x.faultAt(1, text + "virtual ^m0()none{ret;}}");
        x.faultAt(1, text + "virtual ^sf()none{ret;}}");
        x.faultAt(1, text + "virtual ^f7()none{ret;}}");
    }

    private static void firstClassesAgain() {
        Bench.sentence(4, "Any to CastFault told again: FAULT 1.");
        Bench x = new Bench();
        for (String name : "Any Fault NullFault BoundsFault SizeFault DivideFault CastFault".split(" ")) {
            x.faultAt(1, "class ^" + name + " { }");
            x.faultAt(1, "class A { } class B : A { } class ^" + name + " : Any { }");
            x.right("class " + name + "s { } class A { field " + name + " int; method f() none { " + name + ": new " + name + "; throw; } } class B : " + name + " { }", 1);
        }
    }

    private static void parents() {
        Bench.sentence(4, "2 a NAME that is none: as a PARENT a class that stands above;");
        Bench x = new Bench();
        x.faultAt(2, "class A : ^A { }");
        x.faultAt(2, "class A : ^B { } class B { }");
        x.faultAt(2, "class A : ^B { }");
        x.faultAt(2, "class A { } class B : A { } class C : ^D { } class D : C { }");
        x.faultAt(2, "class A : ^any { }");
        x.right("class A { } class B : A { } class C : A { } class D : C { } class E : B { }", 0);
        for (String name : "Any Fault NullFault BoundsFault SizeFault DivideFault CastFault".split(" ")) {
            x.right("class A : " + name + " { }", 0);
        }
        x.faultAt(2, "class A { field b int; } class B : ^b { }");
        x.right(TextTest.many("class C%{}", 11) + "class B : Ca { }", 0);
        Bench.due("PARENT", x.house.type(18, 0), 17);
        x.faultAt(2, TextTest.many("class C%{}", 11) + "class B : ^B { }");
    }

    private static void classesAnywhere() {
        Bench.sentence(4, "a class, anywhere;");
        Bench x = new Bench();
        for (String code : "new @; is @; as @; get @ b; put @ b; gets @ b; puts @ b; call @ b; virt @ b".split("; ")) {
            x.faultAt(2, CODE + "ret; " + code.replace("@", "^B") + "; } }");
            x.faultAt(2, CODE + "ret; " + code.replace("@", "^f") + "; } } class C { field B int; }");
        }
        x.faultAt(2, CODE + "a: pop; b: ret; try a b b ^B; } }");
        x.right(CODE + "ret; new B; is B; null; as B; get B a; null; put B a; gets B s; puts B s; call B m; virt B v; } } class B { field a int; static s int; method m" + VOID + "virtual v" + VOID + "}", 3);
        x.right("class A { field a int; static s int; method m" + VOID + "virtual v" + VOID + "} class B { method f() none { ret; new A; get A a; gets A s; call A m; virt A v; } }", 3);
        x.right("class A { method f() none { ret; new A; is A; as A; } }", 1);
    }

    private static void members() {
        Bench.sentence(4, "a field, static of the class or of one above it; a METHOD likewise (for call a method, for virt a virtual);");
        String[] words = {"get", "put", "gets", "puts", "call", "virt"};
        String[] sorts = {"field", "field", "static", "static", "method", "virtual"};
        Bench x = new Bench();
        for (int i = 0; i < 6; i++) {
            for (String sort : "field static method virtual".split(" ")) {
                String member = sort + " b" + (sort.length() > 5 && !sort.equals("static") ? VOID : " int; ");
                boolean fits = sort.equals(sorts[i]);
                int methods = member.contains("{") ? 2 : 1;
                String[] texts = {"class B { @ } class A { method f() none { ret; " + words[i] + " B ^b; } }", "class A { method f() none { ret; " + words[i] + " B ^b; } } class B { @ }",
                    "class B { @ } class C : B { } class D : C { method f() none { ret; " + words[i] + " D ^b; } }"};
                for (String text : texts) {
                    if (fits) {
                        x.right(text.replace("@", member).replace("^", ""), methods);
                    } else {
                        x.faultAt(2, text.replace("@", member));
                    }
                }
                x.faultAt(2, "class C { } class B : C { " + member + "} class A { method f() none { ret; " + words[i] + " C ^b; } }");
                x.faultAt(2, "class C { " + member + "} class B { } class A { method f() none { ret; " + words[i] + " B ^b; } }");
            }
            x.faultAt(2, CODE + "ret; " + words[i] + " Any ^f; } }");
            x.faultAt(2, CODE + "ret; " + words[i] + " A ^A; } }");
        }
    }

    private static void labels() {
        Bench.sentence(4, "a LABEL of the METHOD (at it; the whole text is looked at, what stands below too).");
        Bench x = new Bench();
        for (String word : "goto ifeq ifne iflt ifge ifgt ifle cmpeq cmpne cmplt cmpge cmpgt cmple ifnull ifsome same other".split(" ")) {
            x.faultAt(2, CODE + "ret; " + word + " ^x; } method x() none { y: ret; } }");
            x.faultAt(2, CODE + "x: ret; } method g() none { ret; " + word + " ^x; } method h() none { x: ret; } }");
            x.right(CODE + "ret; " + word + " x; x: } }", 1);
            x.right(CODE + "x: ret; " + word + " x; } }", 1);
        }
        x.faultAt(2, CODE + "b: ret; c: try ^a b c Any; } }");
        x.faultAt(2, CODE + "a: ret; c: try a ^b c Any; } }");
        x.faultAt(2, CODE + "a: ret; b: try a b ^c Any; } }");
        x.right(CODE + "try a b c Any; a: ret; b: c: pop; ret; } }", 1);
        x.faultAt(2, CODE + "ret; goto ^x; } } class B { method g() none { x: ret; } }");
        x.faultAt(2, "class A { method f() none { ret; add; goto ^x; } method g() none { } method h() none { goto y; } }");
    }

    private static void otherVirtuals() {
        Bench.sentence(4, "3 a virtual whose NAME a virtual of a class above has, but with other KINDS or another RESULT (at its NAME).");
        String[] heads = {"() none", "() int", "() ref", "(int) none", "(ref) none", "(int, int) none", "(int, ref) none", "(int, int, int, int, int, int) int", "(int, int, int, int, int, ref) int"};
        Bench x = new Bench();
        for (String above : heads) {
            for (String below : heads) {
                String first = "class A { virtual v" + above + " { x: goto x; } } ";
                String own = below + " { x: goto x; } }";
                if (above.equals(below)) {
                    x.right(first + "class B : A { virtual v" + own, 2);
                    x.right(first + "class B : A { } class C : B { virtual v" + own, 2);
                } else {
                    x.faultAt(3, first + "class B : A { virtual ^v" + own);
                    x.faultAt(3, first + "class B : A { } class C : B { virtual ^v" + own);
                }
                x.right(first + "class B { virtual v" + own, 2);
                x.right(first + "class B : A { virtual V" + own, 2);
                x.right(first + "class B : A { method v" + own, 2);
                x.right(first.replace("virtual", "method") + "class B : A { virtual v" + own, 2);
            }
        }
        x.right("class A { field v int; } class B : A { static v ref; } class C : B { virtual v(int) none { ret; } }", 1);
    }

    private static void nearestVirtualAbove() {
        Bench.sentence(4, "FAULT 3 is against the nearest virtual above.");
        Bench x = new Bench();
        String top = "class A { virtual v() none { ret; } } ";
        x.faultAt(3, top + "class B : A { virtual ^v(int) none { ret; } } class C : B { virtual v(int) none { ret; } }");
        x.faultAt(3, top + "class B : A { virtual ^v(int) none { ret; } } class C : B { virtual v() none { ret; } }");
        x.faultAt(3, top + "class B : A { method v(int) none { ret; } } class C : B { virtual ^v(int) none { ret; } }");
        x.right(top + "class B : A { method v(int) none { ret; } } class C : B { virtual v() none { ret; } }", 3);
        x.right(top + "class B : A { virtual v() none { ret; } } class C : A { virtual v() none { ret; } } class D : C { virtual v() none { ret; } }", 4);
        x.faultAt(3, "class A { virtual v(int) none { ret; } } class C : A { field v int; } class D : C { static v int; } class E : D { virtual ^v() none { ret; } }");
    }

    private static void emptyTries() {
        Bench.sentence(4, "4 a try whose second LABEL isn't behind the first one (at the first NAME).");
        Bench x = new Bench();
        x.faultAt(4, CODE + "a: ret; b: ret; c: try ^b a c Any; } }");
        x.faultAt(4, CODE + "a: ret; b: ret; c: try ^c a c Any; } }");
        x.faultAt(4, CODE + "try ^b a c Any; a: ret; b: ret; c: } }");
        x.right(CODE + "a: ret; b: ret; d: pop; ret; try b d d Any; try a d d Any; try a b d Any; } }", 1);
        x.faultAt(4, CODE + "a: ret; b: c: try a b c Any; try ^b b c Any; } }");
        Bench.sentence(4, "A LABEL may stand at a METHOD's end (also as the second one of a try);");
        x.right(CODE + "ret; a: null; throw; b: try a b a Any; } }", 1);
        x.right(CODE + "ret; end: } }", 1);
        x.right(CODE + "a: null; b: pop; ret; end: try a end b Any; } }", 1);
        x.faultAt(4, CODE + "ret; end: try ^end end end Any; } }");
    }

    private static void placeOfTheFirst() {
        Bench.sentence(4, "The second LABEL of a try at the place of the first one is FAULT 4, too;");
        Bench x = new Bench();
        x.faultAt(4, CODE + "a: ret; h: pop; ret; try ^a a h Any; } }");
        x.faultAt(4, CODE + "a: b: ret; h: pop; ret; try ^a b h Any; } }");
        x.faultAt(4, CODE + "b: a: ret; h: pop; ret; try ^a b h Any; } }");
        x.faultAt(4, CODE + "ret; h: pop; ret; try ^a b h Any; a: b: } }");
        x.right(CODE + "a: ret; b: h: pop; ret; try a b h Any; } }", 1);
        x.faultAt(4, CODE + "a: try ^a b h Any; b: ret; h: pop; ret; } }");
    }

    private static void triesWithoutLabels() {
        Bench.sentence(4, "a try with a LABEL that is none has FAULT 2 alone.");
        Bench x = new Bench();
        x.faultAt(2, CODE + "b: ret; a: pop; ret; try a ^z b Any; } }");
        x.faultAt(2, CODE + "a: ret; b: pop; ret; try ^z a b Any; } }");
        x.faultAt(2, CODE + "b: ret; a: pop; ret; try a b ^z Any; } }");
        x.faultAt(2, CODE + "a: ret; b: pop; ret; try a a ^z Any; } }");
        x.faultAt(2, CODE + "a: ret; b: pop; ret; try a a ^z None; } }");
        // A class that is none is no LABEL: FAULT 4 stands ahead of it.
        x.faultAt(4, CODE + "a: ret; b: pop; ret; try ^a a b None; } }");
        x.faultAt(2, CODE + "a: ret; b: pop; ret; try a b b ^None; } }");
    }

    private static void firstByPlace() {
        Bench.sentence(5, "FAULTS, the first by its place, of one place the least kind:");
        // Each FAULT with its place; whichever stands first is told.
        String[] faults = {"field a%s int; static ^a%s int; ", "method f%s() none { new ^Q; ret; } ", "method g%s() none { x: ^x: ret; } ", "method h%s() none { goto ^x; } ",
            "method i%s() none { x: ret; y: ret; try ^y x x Any; } ", "virtual ^v() int { push 1; ret; } "};
        int[] kinds = {1, 2, 1, 2, 4, 3};
        Bench x = new Bench();
        for (int i = 0; i < faults.length; i++) {
            for (int j = 0; j < faults.length; j++) {
                if (i != j) {
                    x.faultAt(kinds[i], "class B { virtual v() none { ret; } } class A : B { " + faults[i].replace("%s", "1") + faults[j].replace("%s", "2").replace("^", "") + "}");
                }
            }
            x.faultAt(kinds[i], "class B { virtual v() none { ret; } } class A : B { " + faults[i].replace("%s", "1") + "} class A { } class C : C { method f() none { } }");
            x.faultAt(kinds[i], "class B { virtual v() none { ret; } method f() none { } } class A : B { " + faults[i].replace("%s", "1") + "}");
            x.faultAt(2, "class C : ^C { } class B { virtual v() none { ret; } } class A : B { " + faults[i].replace("%s", "1").replace("^", "") + "}");
            x.faultAt(1, "class C { } class ^C { } class B { virtual v() none { ret; } } class A : B { " + faults[i].replace("%s", "1").replace("^", "") + "}");
        }
        x.faultAt(1, "class A { } class ^A : Z { }");
        x.faultAt(2, "class A { } class B : ^Z { } class A { }");
        x.faultAt(2, "class A { method f() none { get ^Z z; get A z; ret; } }");
        x.faultAt(2, "class A { method f() none { get A ^z; get Z z; ret; } }");
        x.faultAt(2, CODE + "try ^x y z W; } }");
    }

    private static void leastKind() {
        Bench.sentence(5, "of one place the least kind:");
        Bench x = new Bench();
        x.faultAt(1, "class A { virtual v() none { ret; } } class B : A { field v int; virtual ^v(int) none { ret; } }");
        x.faultAt(1, "class A { virtual v() none { ret; } } class B : A { virtual v() none { ret; } virtual ^v(int) none { ret; } }");
        x.faultAt(3, "class A { virtual v() none { ret; } } class B : A { virtual ^v(int) none { ret; } virtual v() none { ret; } }");
    }

    private static void wrongFirst() {
        Bench.sentence(4, "-1 less the PLACE if it is WRONG;");
        Bench x = new Bench();
        x.wrongAt("class A { } class A { } ^?");
        x.wrongAt("class A : B { ^?");
        x.wrongAt("class Any { } class B { field a int; field a int; method f() none { add; goto x; ^?");
        x.wrongAt(CODE + "} } ^}");
    }

    private static void numbering() {
        Bench.sentence(4, "CLASSES are numbered 0 (Any) to 6, then from 7 on as they stand; METHODS, statics from 0 on as they stand.");
        Bench x = new Bench().right("class Z { static b int; method z() int { push 7; puts Z b; push 1; ret; } static a ref; } class A { virtual a() ref { null; ret; } static c int; "
            + "method k() none { push 5; puts A c; new CastFault; puts Z a; new A; throw; } }", 3);
        int[] results = {1, 2, 0};
        int[] classes = {7, 8, 8};
        for (int m = 0; m < 3; m++) {
            Bench.due("RESULT of " + m, x.house.method(m, 2), results[m]);
            Bench.due("CLASS of " + m, x.house.method(m, 0), classes[m]);
        }
        x.runOf(2, 3, 1);
        Bench.due("class", x.house.object(0, 0), 6);
        Bench.due("class", x.house.object(1, 0), 8);
        int[] due = {0, 0, 5};
        for (int k = 0; k < 3; k++) {
            Bench.due("static " + k, x.house.stat(k, 0), due[k]);
        }
        x.right("class A { method f() ref { new Any; new Fault; new NullFault; new BoundsFault; new SizeFault; new DivideFault; new CastFault; new A; new B; ret; } } class B { }", 1).run(2, 8);
        for (int c = 0; c < 9; c++) {
            Bench.due("class of OBJECT " + c, x.house.object(c, 0), c);
        }
    }

    private static void firstCounts() {
        Bench.sentence(4, "Of a NAME told again the first one counts for others (of MEMBERS in a class the first field, static, method, virtual of it, each for what asks for such);");
        Bench x = new Bench();
        // What stands ahead of the second one tells which of them was asked.
        x.faultAt(2, CODE + "ret; get B ^b; } } class B { field a int; } class B { field b int; }");
        x.faultAt(1, CODE + "ret; get B a; } } class B { field a int; } class ^B { field b int; }");
        x.faultAt(2, "class B { field a int; } class C { method f() none { ret; get B ^b; } } class B { field b int; }");
        x.faultAt(1, "class B { field a int; static ^a int; } class A { method f() none { ret; get B a; gets B a; call B a; } method a" + VOID + "}");
        x.faultAt(1, CODE + "ret; get B a; gets B a; call B a; virt B a; } } class B { field a int; static ^a int; method a" + VOID + "virtual a" + VOID + "}");
        x.faultAt(2, CODE + "ret; get B a; gets B a; call B a; virt B ^a; } } class B { field a int; static a int; method a" + VOID + "}");
        x.faultAt(2, CODE + "ret; get B ^a; } } class B { static a int; method a" + VOID + "}");
        x.faultAt(3, "class A { virtual v() none { ret; } } class B : A { virtual ^v() int { push 1; ret; } virtual v() none { ret; } } class C : B { virtual v() int { push 1; ret; } }");
        // The LABEL that counts is the first one.
        x.faultAt(4, CODE + "a: ret; try ^b a a Any; b: ret; a: } }");
        x.faultAt(1, CODE + "a: ret; try a b a Any; b: ret; ^a: } }");
        x.faultAt(1, CODE + "b: ret; try b a a Any; a: ret; ^b: } }");
        x.faultAt(4, CODE + "b: ret; a: ret; try ^a b a Any; b: } }");
        x.faultAt(1, "class A { } class ^A { virtual v() none { ret; } } class B : A { virtual v() int { push 1; ret; } }");
    }

    private static void parentThatIsNone() {
        Bench.sentence(4, "a CLASS whose PARENT is none (or stands below) has Any above it for others.");
        Bench x = new Bench();
        x.faultAt(2, CODE + "ret; get B ^c; } } class B : C { } class C { field c int; }");
        x.faultAt(2, CODE + "ret; get B ^c; } } class B : B { }");
        x.faultAt(2, CODE + "ret; get B b; call D ^c; } } class B : Z { field b int; } class D : B { }");
        x.faultAt(2, CODE + "ret; get D b; } } class B : ^Z { field b int; } class D : B { }");
        x.faultAt(2, "class B : ^C { virtual v() none { ret; } } class C { virtual v() int { push 1; ret; } }");
        x.faultAt(2, "class B : ^B { virtual v() none { ret; } }");
    }

    private static void nearestFields() {
        Bench.sentence(4, "get, put go to the nearest field, gets, puts to the nearest static of this NAME (class, then above), whatever else has it.");
        String classes = "class A { field a int; static s int; } class B : A { static a int; field s int; } class C : B { method a" + VOID + "virtual s" + VOID + "} class D : C { field a int; static s int; } ";
        Bench x = new Bench().right(classes + "class E { method f() none { new D; store 0; load 0; push 1; put A a; load 0; push 2; put B a; load 0; push 3; put C a; load 0; push 4; put D a; load 0; push 5; put C s;"
            + " push 6; puts A s; push 7; puts B s; push 8; puts C s; push 9; puts D s; push 10; puts C a;"
            + " load 0; get A a; sink 0; load 0; get C a; sink 1; load 0; get D a; sink 2; load 0; get D s; sink 3; gets C s; sink 4; gets D s; sink 5; gets D a; sink 6; ret; } }", 3);
        x.runOf(2, 0);
        int[] slots = {3, 5, 4};
        for (int k = 0; k < 3; k++) {
            Bench.due("FIELD " + k, x.house.slot(0, k, 0), slots[k]);
        }
        int[] statics = {8, 10, 9};
        for (int k = 0; k < 3; k++) {
            Bench.due("static " + k, x.house.stat(k, 0), statics[k]);
        }
        int[] events = {3, 3, 4, 5, 8, 9, 10};
        for (int i = 0; i < 7; i++) {
            Bench.due("EVENT " + i, x.house.event(i, 1), events[i]);
        }
    }

    private static void nearestMethods() {
        Bench.sentence(4, "call goes to the nearest method of this NAME (class, then above), virt to the nearest virtual, whatever else has it.");
        String classes = "class A { method m() int { push 1; ret; } virtual v() int { push 2; ret; } } class B : A { virtual m() int { push 3; ret; } method v() int { push 4; ret; } }"
            + " class C : B { field m int; static v int; } class D : C { method m() int { push 5; ret; } virtual v() int { push 6; ret; } } ";
        String codes = "call A m; sink 0; call B m; sink 1; call C m; sink 2; call D m; sink 3; call B v; sink 4; call D v; sink 5; new C; virt A v; sink 6; new C; virt C v; sink 7;"
            + " new D; virt A v; sink 8; new B; virt B m; sink 9; new D; virt C m; sink 10; new D; virt D m; sink 11; ret;";
        Bench x = new Bench().right(classes + "class E { method f() none { " + codes + " } }", 7);
        x.runOf(6, 0);
        int[] due = {1, 1, 1, 5, 4, 4, 2, 2, 6, 3, 3, 3};
        for (int i = 0; i < due.length; i++) {
            Bench.due("EVENT " + i, x.house.event(i, 1), due[i]);
        }
    }
}
