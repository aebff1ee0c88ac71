/** Promise 4: which texts are right, and where others are WRONG (at the sign ^, which is taken out). */
public final class TextTest {
    private static final String CODE = "class A { method f() none { ";

    public static void main(String[] args) {
        tokens();
        names();
        numbers();
        numbersBehindZero();
        blanks();
        classes();
        members();
        kinds();
        items();
        told();
        limits();
        words();
        nothingChanges();
        Bench.finish();
    }

    private static void tokens() {
        Bench x = new Bench();
        x.wrongAt("^");
        x.wrongAt("   ^");
        x.wrongAt("# class A { }^");
        x.wrongAt("^!class A { }");
        x.wrongAt("^A");
        x.wrongAt("^clas A { }");
        x.wrongAt("^classA { }");
        x.wrongAt("^Class A { }");
        x.wrongAt("^7");
        x.wrongAt("class A { }^!");
        x.wrongAt("class A { }^;");
        x.wrongAt("class A { ^/ }");
        x.wrongAt("class A^_b { }");
        x.wrongAt("class A { }^\u00e9");
        x.wrongAt("class A { }^\0");
        x.wrongAt("class A { ^\"");
        x.right("class A{}", 0);
        x.right("class A{method f()none{x:goto x;}}", 1);
    }

    private static void names() {
        Bench x = new Bench();
        x.right("class abcdefghijkl { }", 0);
        x.right("class z123456789AZ { }", 0);
        x.wrongAt("class abcdefghijkl^m { }");
        x.wrongAt("class abcdefghijkl^mnop");
        x.wrongAt("class A : abcdefghijkl^9 { }");
        x.wrongAt("^classclassclass A { }");
        x.wrongAt("class A { ^fieldfieldfield a int; }");
        x.wrongAt("class A { field a ^intintintintint; }");
        x.wrongAt("class A { field abcdefghijkl^m int; }");
        x.wrongAt("class A ^abcdefghijklm { }");
        x.wrongAt(CODE + "abcdefghijkl^m: ret; } }");
        x.wrongAt(CODE + "load ^abcdefghijklm; ret; } }");
        x.wrongAt(CODE + "get A abcdefghijkl^m; ret; } }");
        x.wrongAt(CODE + "ret ^abcdefghijklm; } }");
        x.wrongAt("class ^9a { }");
        x.wrongAt("class ^int { }");
        x.wrongAt("class ^push { }");
        x.wrongAt("class A { method ^ret() none { ret; } }");
        x.right("class ints1 { method Ret() none { pushh: goto pushh; } }", 1);
    }

    private static void numbers() {
        Bench x = new Bench();
        x.right(CODE + "push 2147483647; push -2147483648; push - 2147483648; push -0; push 0; ret; } }", 1);
        x.right(CODE + "push - # so\n 5; ret; } }", 1);
        x.wrongAt(CODE + "push ^2147483648; ret; } }");
        x.wrongAt(CODE + "push ^99999999999999999999999999; ret; } }");
        x.wrongAt(CODE + "push - ^2147483649; ret; } }");
        x.wrongAt(CODE + "push -^4294967296; ret; } }");
        x.wrongAt(CODE + "push - ^- 5; ret; } }");
        x.wrongAt(CODE + "push -^; ret; } }");
        x.wrongAt(CODE + "push 0^0; ret; } }");
        x.wrongAt(CODE + "push 0^12; ret; } }");
        x.wrongAt(CODE + "push -0^1; ret; } }");
        x.wrongAt(CODE + "push 5^x; ret; } }");
        x.wrongAt(CODE + "push 5 ^5; ret; } }");
        x.wrongAt("class ^01 { }");
        x.wrongAt(CODE + "push ^+5; ret; } }");
        x.wrongAt(CODE + "push ^; ret; } }");
        x.wrongAt(CODE + "load ^16; ret; } }");
        x.wrongAt(CODE + "load ^-1; ret; } }");
        x.wrongAt(CODE + "load ^2147483648; ret; } }");
        x.wrongAt(CODE + "store ^16; ret; } }");
        x.wrongAt(CODE + "source ^16; ret; } }");
        x.wrongAt(CODE + "sink ^16; ret; } }");
        x.wrongAt(CODE + "inc ^16 1; ret; } }");
        x.wrongAt(CODE + "inc 15 ^32768; ret; } }");
        x.wrongAt(CODE + "inc 15 - ^32768; ret; } }");
        x.wrongAt(CODE + "inc 15 -^2147483648; ret; } }");
        x.wrongAt(CODE + "inc ^-1 1; ret; } }");
        x.right(CODE + "push 1; store 15; inc 15 32767; inc 15 - 32767; inc 15-0; ret; } }", 1);
        x.wrongAt(CODE + "push 1; clean ^65536; ret; } }");
        x.wrongAt(CODE + "push 1; mark ^65536; ret; } }");
        x.wrongAt(CODE + "push 1; mark ^-1; ret; } }");
        x.right(CODE + "push 1; clean 65535; mark 65535; mark 0; ret; } }", 1);
    }

    /** A 0 is a NUMBER by itself, and no blank need stand between two TOKENS: inc 05 is inc with 0 and 5. */
    private static void numbersBehindZero() {
        Bench x = new Bench();
        for (String told : new String[] {"05", "00", "032767", "010", "0-5", "0-0", "0#\n5", "15 0"}) {
            x.right("class A { method f() none { push 1; store 0; push 1; store 15; inc " + told + "; ret; } }", 1);
        }
        x.right("class A{method f(int)int{inc 05;load 0;ret;}}", 1);
        x.house.argument(0, 7, 4);
        x.run(1, 12, 4);
        x.wrongAt("class A{method f(int)none{inc 05^\0\0\0\0\0\0\0\0");
        x.wrongAt("class A{method f(int)none{inc 05^");
        x.wrongAt(CODE + "inc 05^-1; ret; } }");
        x.wrongAt(CODE + "inc 05 ^5; ret; } }");
        x.wrongAt(CODE + "inc 00^0; ret; } }");
        x.wrongAt(CODE + "inc 00^5; ret; } }");
        x.wrongAt(CODE + "inc 0^32768; ret; } }");
        x.wrongAt(CODE + "inc 0^2147483648; ret; } }");
        x.wrongAt(CODE + "inc 0^99999999999; ret; } }");
        x.wrongAt(CODE + "inc 0^; ret; } }");
        x.wrongAt(CODE + "inc 0^x; ret; } }");
        x.wrongAt(CODE + "inc 15^; ret; } }");
        x.wrongAt(CODE + "inc ^150; ret; } }");
        x.wrongAt(CODE + "inc 15 0^5; ret; } }");
        x.wrongAt(CODE + "inc 0-0^5; ret; } }");
        x.wrongAt(CODE + "load 0^1; ret; } }");
        x.wrongAt(CODE + "store 0^0; ret; } }");
        x.wrongAt(CODE + "source 0^1; ret; } }");
        x.wrongAt(CODE + "sink 0^1; ret; } }");
        x.wrongAt(CODE + "push 1; mark 0^1; ret; } }");
        x.wrongAt(CODE + "push 1; clean 0^0; ret; } }");
        x.wrongAt(CODE + "push 0^2147483648; ret; } }");
    }

    private static void blanks() {
        Bench x = new Bench();
        x.right("\t\r\n class#x\nA\r{\t}#", 0);
        x.right("class A { } # class \u00ff ! {", 0);
        x.right("#\n#\nclass A { }\n#\n", 0);
        x.wrongAt("class A {^\u000b }");
        x.wrongAt("class A # { }^");
        x.wrongAt("class A # { } \r }^");
        x.right("class A # } \n { }", 0);
    }

    private static void classes() {
        Bench x = new Bench();
        x.wrongAt("class^");
        x.wrongAt("class A^");
        x.wrongAt("class A ^");
        x.wrongAt("class A {^");
        x.right("class A { } ", 0);
        x.wrongAt("class A : ^{ }");
        x.wrongAt("class A : B ^: C { }");
        x.wrongAt("class A { ^{ }");
        x.wrongAt("class A { } ^}");
        x.wrongAt("class A { ^class B { } }");
        x.right("class A { } class B : A { } class C : Fault { }", 0);
    }

    private static void members() {
        Bench x = new Bench();
        x.right("class A { static s int; field a int; method f() none { ret; } field b ref; virtual v() none { ret; } static t ref; }", 2);
        x.wrongAt("class A { field ^; }");
        x.wrongAt("class A { field a^; }");
        x.wrongAt("class A { field a ^none; }");
        x.wrongAt("class A { static a ^none; }");
        x.wrongAt("class A { field a int ^}");
        x.wrongAt("class A { field a int ^ref; }");
        x.wrongAt("class A { ^a int; }");
        x.wrongAt("class A { ^int a; }");
        x.wrongAt("class A { ^try a b c D; }");
        x.wrongAt("class A { ^ret; }");
        x.wrongAt("class A { method f ^int { ret; } }");
        x.wrongAt("class A { method f() ^{ ret; } }");
        x.wrongAt("class A { method f() int^; }");
        x.wrongAt("class A { method f() none { ret; }^; }");
    }

    private static void kinds() {
        Bench x = new Bench();
        x.right("class A { method f(int,ref , int,ref,int,ref) ref { load 5; ret; } }", 1);
        x.wrongAt("class A { method f(int, int, int, int, int, int^, int) none { ret; } }");
        x.wrongAt("class A { virtual f(int, int, int, int, int, int^, int) none { ret; } }");
        x.wrongAt("class A { method f(int ^int) none { ret; } }");
        x.wrongAt("class A { method f(int, ^) none { ret; } }");
        x.wrongAt("class A { method f(^, int) none { ret; } }");
        x.wrongAt("class A { method f(^none) none { ret; } }");
        x.wrongAt("class A { method f(int, ^none) none { ret; } }");
        x.wrongAt("class A { method f(int^; int) none { ret; } }");
        x.wrongAt("class A { method f(^a) none { ret; } }");
    }

    private static void items() {
        Bench x = new Bench();
        x.wrongAt(CODE + "ret ^}");
        x.wrongAt(CODE + "ret; ^; } }");
        x.wrongAt(CODE + "ret; x^; } }");
        x.wrongAt(CODE + "ret; x ^y: } }");
        x.wrongAt(CODE + "ret; ^int: } }");
        x.wrongAt(CODE + "ret; add^: } }");
        x.wrongAt(CODE + "ret; ^5: } }");
        x.wrongAt(CODE + "ret; ^: } }");
        for (String word : "class field static method virtual int ref none".split(" ")) {
            x.wrongAt(CODE + "ret; ^" + word + " A B; } }");
        }
        x.wrongAt(CODE + "ret; ^{ } } }");
        x.wrongAt(CODE + "ret; } ^");
        x.wrongAt(CODE + "ret; x: ^");
        x.wrongAt(CODE + "ret; pus ^");
        x.wrongAt(CODE + "try a b c^; } }");
        x.wrongAt(CODE + "try a b c D ^E; } }");
        x.wrongAt(CODE + "try a b c ^int; } }");
        x.wrongAt(CODE + "try ^; } }");
        x.wrongAt(CODE + "try^: ret; } }");
        x.right(CODE + "try a b h Any; a: ret; b: h: pop; ret; try a h h Fault; z: } }", 1);
    }

    private static void told() {
        Bench x = new Bench();
        x.wrongAt(CODE + "goto^; } }");
        x.wrongAt(CODE + "goto ^5; } }");
        x.wrongAt(CODE + "goto x ^y; } }");
        x.wrongAt(CODE + "new ^; } }");
        x.wrongAt(CODE + "new ^5; } }");
        x.wrongAt(CODE + "new A ^B; } }");
        x.wrongAt(CODE + "get A^; } }");
        x.wrongAt(CODE + "get A b ^c; } }");
        x.wrongAt(CODE + "get ^0 b; } }");
        x.wrongAt(CODE + "call A^; } }");
        x.wrongAt(CODE + "virt A^; } }");
        x.wrongAt(CODE + "add ^1; } }");
        x.wrongAt(CODE + "inc 1^; } }");
        x.wrongAt(CODE + "inc 1^, 2; } }");
        x.wrongAt(CODE + "load ^x; } }");
        x.wrongAt(CODE + "is^; } }");
        x.wrongAt(CODE + "push ^push; } }");
        x.wrongAt(CODE + "get ^get x; } }");
        x.wrongAt(CODE + "get A ^get; } }");
    }

    private static void limits() {
        Bench x = new Bench();
        x.right(many("class C% { } ", 12), 0);
        x.wrongAt(many("class C% { } ", 12) + "^class D { }");
        x.right("class A { " + many("field f% int; ", 8) + "} class B : A { " + many("field f% int; ", 8) + "}", 0);
        Bench.due("fields", x.house.type(8, 1), 16);
        x.wrongAt("class A { " + many("field f% int; ", 8) + "^field g int; }");
        x.right("class A { " + many("static f% int; ", 8) + "} class B { " + many("static f% int; ", 8) + "}", 0);
        x.wrongAt("class A { " + many("static f% int; ", 8) + "} class B { " + many("static f% int; ", 8) + "^static x int; }");
        x.right("class A { " + many("method f% () none { ret; } ", 12) + "} class B { " + many("virtual f% () none { ret; } ", 12) + "}", 24);
        x.wrongAt("class A { " + many("method f% () none { ret; } ", 12) + "} class B { " + many("virtual f% () none { ret; } ", 12) + "^method x() none { ret; } }");
        x.wrongAt("class A { " + many("method f% () none { ret; } ", 24) + "^virtual x() none { ret; } }");
        x.right(CODE + "a: ret; b: " + many("try a b c Any; ", 8) + "c: pop; ret; } }", 1);
        x.wrongAt(CODE + "a: ret; b: " + many("try a b c Any; ", 8) + "^try a b c Any; c: pop; ret; } }");
        x.right(CODE + many("null; pop; ", 49) + "null; ret; } method g() none { " + many("null; pop; ", 49) + "null; ret; } }", 2);
        Bench.due("INSTRUCTIONS", x.house.method(1, 4), 100);
        x.wrongAt(CODE + many("null; pop; ", 50) + "^ret; } }");
        x.right(CODE + many("l%:", 900) + "ret; } }", 1);
    }

    /** Each word of an instruction is read as one, and is no NAME. */
    private static void words() {
        Bench x = new Bench();
        String all = "push null load store inc dup pop swap add sub mul div rem and or xor shl shr ushr neg goto ifeq ifne iflt ifge ifgt ifle "
            + "cmpeq cmpne cmplt cmpge cmpgt cmple ifnull ifsome same other new get put gets puts ints refs iget iput rget rput length call "
            + "virt ret throw is as source sink clean mark class field static method virtual int ref none try";
        for (String word : all.split(" ")) {
            x.wrongAt("class ^" + word + " { }");
            x.wrongAt(CODE + "goto ^" + word + "; } }");
            x.right("class " + word + "1 { }", 0);
        }
    }

    private static void nothingChanges() {
        Bench x = new Bench().right("class A { static s int; method f(int) int { load 0; dup; puts A s; new A; pop; dup; sink 2; ret; } }", 1);
        x.house.argument(0, 4, 2);
        x.run(1, 4, 2, 8, 1, 0, 1, 1);
        for (String text : new String[] {"class B {", "class A { } class A { }", CODE + "add; } }"}) {
            Bench.due("a text that isn't right: " + text, x.read(text) < 0, true);
            Bench.due("result", x.house.result(1), 4);
            Bench.due("event", x.house.event(0, 1), 4);
            Bench.due("object", x.house.object(0, 0), 7);
            Bench.due("stat", x.house.stat(0, 0), 4);
            Bench.due("METHODS", x.house.count(1), 1);
            x.run(1, 4, 2, 8, 1, 0, 1, 1);
        }
        x.right("class A { static s int; method f(int) int { load 0; ret; } }", 1);
        Bench.due("the RUN is forgotten", x.house.result(0), -1);
        Bench.due("and its EVENTS", x.house.event(0, 0), -1);
        Bench.due("and its OBJECTS", x.house.object(0, 0), -1);
        Bench.due("and its statics", x.house.stat(0, 0), -1);
        x.run(1, 0, 0, 2, 0, 0, 0, 0);
    }

    /** The text so many times, with a number for each %. */
    static String many(String text, int times) {
        StringBuilder all = new StringBuilder();
        for (int i = 0; i < times; i++) {
            all.append(text.replace("%", Integer.toString(i, 36)));
        }
        return all.toString();
    }
}
