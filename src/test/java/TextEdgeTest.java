/** Promise 4, texts that are right or WRONG (at the sign ^): a test for each sentence that names a boundary case. */
public final class TextEdgeTest {
    private static final String CODE = "class A { method f() none { ";
    private static final String END = "; ret; } }";
    private static final String PLAIN = "null dup pop swap add sub mul div rem and or xor shl shr ushr neg ints refs iget iput rget rput length ret throw";
    private static final String LABELLED = "goto ifeq ifne iflt ifge ifgt ifle cmpeq cmpne cmplt cmpge cmpgt cmple ifnull ifsome same other";
    private static final String CLASSED = "new is as";
    private static final String MEMBERED = "get put gets puts call virt";
    private static final String LOCALS = "load store source sink";

    public static void main(String[] args) {
        answers();
        changesNothing();
        rightForgets();
        emptiesTheTape();
        firstWrongByte();
        tokenThatCannotStand();
        names();
        longNames();
        longNamesWhereNoneStand();
        numbers();
        zeroes();
        signs();
        blanks();
        comments();
        wordsAreNoNames();
        bounds();
        classes();
        parents();
        members();
        fields();
        statics();
        methods();
        kinds();
        memberKinds();
        results();
        tries();
        codes();
        oneTooMany();
        pushes();
        toldToCodes();
        minus();
        labels();
        empty();
        mostNames();
        mostCodes();
        Bench.finish();
    }

    private static void answers() {
        Bench.sentence(4, "A TEXT: how many METHODS; -1 less the PLACE if it is WRONG; -5000 less the kind of its FAULT.");
        Bench x = new Bench();
        Bench.due("no METHODS", x.read("class A { }"), 0);
        Bench.due("one", x.read("class A { method f() none { ret; } }"), 1);
        Bench.due("24", x.read("class A { " + TextTest.many("method m%() none { ret; } ", 24) + "}"), 24);
        Bench.due("WRONG at 0", x.read("?"), -1);
        Bench.due("WRONG at 1", x.read(" ?"), -2);
        Bench.due("WRONG at 3999", x.read(TextTest.many(" ", 3999) + "?"), -4000);
        Bench.due("WRONG at 4000", x.read(TextTest.many(" ", 4000)), -4001);
        Bench.due("FAULT 1", x.read("class Any { }"), -5001);
        Bench.due("FAULT 2", x.read("class A : B { }"), -5002);
        Bench.due("FAULT 3", x.read("class A{virtual v()none{ret;}}class B:A{virtual v(int)none{ret;}}"), -5003);
        Bench.due("FAULT 4", x.read("class A{method f()none{a:ret;try a a a Any;}}"), -5004);
        Bench.due("FAULT 5", x.read("class A{method f()none{}}"), -5005);
    }

    private static void changesNothing() {
        Bench.sentence(4, "What isn't right changes nothing; else the RUN that was is forgotten, ARGUMENTS are 0 without MARKS.");
        Bench x = new Bench().right("class A { static s int; field a int; method f(int) int { load 0; dup; puts A s; new A; pop; dup; sink 2; ret; } } class B { }", 1);
        x.house.argument(0, 4, 2);
        x.run(1, 4, 2, 8, 1, 0, 1, 2);
        String[] texts = {"", "?", "class A { method f(int) int { load 0; ret; } }?", "class C { field a ref; } class C { }", "class C : D { static t ref; }",
            "class C { virtual v() none { ret; } } class D : C { virtual v() int { push 1; ret; } }", CODE + "a: ret; try a a a Any; } }",
            "class C { method g() int { push 1; ret; } method h() none { pop; ret; } }", "class C { " + TextTest.many("field f%e int; ", 9) + "}"};
        for (String text : texts) {
            Bench.due("a text that isn't right: " + text, x.read(text) < 0, true);
            int[] results = {1, 4, 2, 8, 1, 0, 1, 2};
            for (int what = 0; what < 8; what++) {
                Bench.due("result(" + what + ") behind " + text, x.house.result(what), results[what]);
            }
            int[] counts = {9, 1, 1, 0, 0};
            for (int what = 0; what < 5; what++) {
                Bench.due("count(" + what + ") behind " + text, x.house.count(what), counts[what]);
            }
            Bench.due("event behind " + text, x.house.event(0, 1), 4);
            Bench.due("object behind " + text, x.house.object(0, 1), 1);
            Bench.due("slot behind " + text, x.house.slot(0, 0, 0), 0);
            Bench.due("stat behind " + text, x.house.stat(0, 1), 2);
            Bench.due("type behind " + text, x.house.type(7, 1), 1);
            Bench.due("method behind " + text, x.house.method(0, 4), 8);
            x.run(1, 4, 2, 8, 1, 0, 1, 2);
        }
    }

    private static void rightForgets() {
        Bench.sentence(4, "else the RUN that was is forgotten, ARGUMENTS are 0 without MARKS.");
        String text = "class A { static s int; field a int; virtual v(int, int, int, int, int, int) int { load 1; load 2; or; load 3; or; load 4; or; load 5; or; load 6; or; new A; pop; dup; sink 0; load 0; is A; sink 1; ret; } }";
        Bench x = new Bench().right(text, 1);
        for (int i = 0; i < 7; i++) {
            x.house.argument(i, 1 << i, 1 << i);
        }
        x.run(1, 126, 126);
        Bench.due("MARKS of the virtual's own", x.house.event(1, 2), 1);
        x.right(text, 1);
        for (int what = 0; what < 8; what++) {
            Bench.due("result(" + what + ")", x.house.result(what), -1);
        }
        Bench.due("event(0, 0)", x.house.event(0, 0), -1);
        Bench.due("object(0, 0)", x.house.object(0, 0), -1);
        Bench.due("slot(0, 0, 0)", x.house.slot(0, 0, 0), -1);
        Bench.due("stat(0, 0)", x.house.stat(0, 0), -1);
        x.run(1, 0, 0);
        Bench.due("MARKS of the virtual's own", x.house.event(1, 2), 0);
    }

    private static void emptiesTheTape() {
        Bench.sentence(4, "A TEXT is the whole tape; the call that reads it empties it, whatever it answers.");
        Bench x = new Bench();
        String[] texts = {"", "class A { }", "?", "class A { } ?", "class A { } class A { }", CODE + "} }", TextTest.many(" ", 4000)};
        for (String text : texts) {
            Bench.put(x.house, text);
            Bench.due("bytes of " + text, x.house.count(4), text.length());
            x.house.text();
            Bench.due("bytes behind " + text, x.house.count(4), 0);
            Bench.due("end(1)", x.house.end(1), false);
            Bench.due("the next text is empty", x.house.text(), -1);
        }
        x.right("class A { }" + TextTest.many(" ", 3989), 0);
        x.right(TextTest.many(" ", 3989) + "class A { }", 0);
        x.wrong("class A { }" + TextTest.many(" ", 3988) + "}", 3999);
    }

    private static void firstWrongByte() {
        Bench.sentence(4, "A text is WRONG at a PLACE: that of the first byte (from 0 on; the length at its end) with which, from the left, it can't go on to be right;");
        Bench x = new Bench();
        x.wrongAt("^}");
        x.wrongAt("^\0");
        x.wrongAt("class A { }^}");
        x.wrongAt("class A { } ^A class");
        x.wrongAt("class A : B { ^: }? :");
        String text = "class A : Any { field a int ; static b ref ; method f ( int , ref ) none { x : try x y x Any ; pop ; y : ret ; } }";
        // At the end of what is right so far; two words make a class, so that the blank behind the first } is right.
        for (int length = 0; length < text.length(); length++) {
            if (text.charAt(length) == ' ') {
                x.wrongAt(text.substring(0, length) + "^");
                x.wrongAt(text.substring(0, length + 1) + "^");
            }
        }
        x.wrong(TextTest.many(" ", 3991) + "class A {", 4000);
        x.wrong(TextTest.many(" ", 3990) + "class A { ", 4000);
        x.wrong(TextTest.many(" ", 3990) + "class A {?", 3999);
    }

    private static void tokenThatCannotStand() {
        Bench.sentence(4, "of a TOKEN that can't stand its first byte.");
        Bench x = new Bench();
        x.wrongAt("^clas");
        x.wrongAt("^classes A { }");
        x.wrongAt("^12345");
        x.wrongAt("class ^class { }");
        x.wrongAt("class A ^extends B { }");
        x.wrongAt("class A { ^methods f() none { ret; } }");
        x.wrongAt("class A { field a ^integer; }");
        x.wrongAt("class A { field a ^reff; }");
        x.wrongAt("class A { field ^int int; }");
        x.wrongAt(CODE + "push ^abc" + END);
        x.wrongAt(CODE + "load ^none" + END);
        x.wrongAt(CODE + "goto ^2147483647" + END);
        x.wrongAt(CODE + "ret ^ret; } }");
        x.wrongAt(CODE + "ret; ^method");
        x.wrongAt(CODE + "ret; ^class A : B; } }");
    }

    private static void names() {
        Bench.sentence(4, "NAMES, a letter (a .. z, A .. Z) and then up to 11 letters or digits");
        Bench x = new Bench();
        for (char sign = 0; sign < 256; sign++) {
            boolean letter = sign >= 'a' && sign <= 'z' || sign >= 'A' && sign <= 'Z';
            boolean digit = sign >= '0' && sign <= '9';
            boolean blank = sign == 9 || sign == 10 || sign == 13 || sign == 32;
            if (letter) {
                x.right("class " + sign + " { }", 0);
            } else if (!blank && sign != '#') {
                x.wrong("class " + sign + "{ }", 6);
            }
            if (letter || digit || blank) {
                x.right("class A" + sign + "{ }", 0);
            } else if (sign == '{') {
                x.right("class A" + sign + " }", 0);
            } else if (sign != '#' && sign != ':') {
                x.wrong("class A" + sign + "{ }", 7);
            }
        }
        x.right("class a { } class z { } class A { } class Z { } class a0 { } class z9 { } class aA { } class AZ09az { }", 0);
        x.right("class A23456789012 { }", 0);
        x.right("class abcdefghijkl { method ABCDEFGHIJKL() none { z00000000000: goto z00000000000; } }", 1);
        x.right("class abcdefghijkl { } class abcdefghijkL { } class abcdefghijk { }", 0);
        x.faultAt(1, "class abcdefghijkl { } class ^abcdefghijkl { }");
        // NAMES that differ in one sign, at each place of it.
        String letters = "abcdefghijklmnopqrstuvwxyzABCDEFGHIJKLMNOPQRSTUVWXYZ";
        String rest = "m1Mz0Za9A5";
        for (int ahead = 0; ahead <= rest.length(); ahead++) {
            for (int length = ahead; length <= rest.length(); length++) {
                StringBuilder all = new StringBuilder();
                for (int i = 0; i < 52; i++) {
                    all.append(rest, 0, ahead).append(letters.charAt(i)).append(rest, ahead, length).append("Q:");
                }
                x.right(CODE + all + "ret; } }", 1);
            }
        }
    }

    private static void longNames() {
        Bench.sentence(4, "(a longer one is WRONG at its 13th sign)");
        String[] places = {"class @ { }", "class A : @ { }", "class A { field @ int; }", "class A { static @ ref; }", "class A { method @() none { ret; } }",
            "class A { virtual @() none { ret; } }", CODE + "@: ret; } }", CODE + "a: ret; b: try @ b b Any; } }", CODE + "a: ret; b: try a @ b Any; } }",
            CODE + "a: ret; b: try a b @ Any; } }", CODE + "a: ret; b: try a b b @; } }", CODE + "goto @; } }", CODE + "ifnull @; } }", CODE + "new @; } }",
            CODE + "is @; } }", CODE + "get @ a; } }", CODE + "get A @; } }", CODE + "virt @ a; } }", CODE + "puts A @; } }"};
        Bench x = new Bench();
        for (String place : places) {
            x.wrongAt(place.replace("@", "abcdefghijkl^m"));
            x.wrongAt(place.replace("@", "A00000000000^0"));
            x.wrongAt(place.replace("@", "abcdefghijkl^mnopqrstuvwxyz0123456789"));
            x.wrongAt(place.replaceAll("@.*", "abcdefghijkl^m"));
            Bench.due("12 signs in " + place, x.read(place.replace("@", "abcdefghijkl")) >= 0 || x.house.place() >= 0, true);
        }
        x.wrong("class " + TextTest.many("a", 3994), 18);
    }

    private static void longNamesWhereNoneStand() {
        Bench.sentence(4, "A NAME with too many signs is WRONG at its first byte where no NAME can stand.");
        String name = "^abcdefghijklm";
        String[] texts = {"@ A { }", "class A @", "class A : B @ { }", "class A { @ }", "class A { field a @; }", "class A { static a int @; }", "class A { method f @() none { ret; } }",
            "class A { method f(@) none { ret; } }", "class A { method f(int @) none { ret; } }", "class A { method f() @ { ret; } }", "class A { method f() none @ { ret; } }",
            CODE + "push @; } }", CODE + "push -@; } }", CODE + "load @; } }", CODE + "inc @ 1; } }", CODE + "inc 1 @; } }", CODE + "inc 1-@; } }", CODE + "mark @; } }",
            CODE + "ret @; } }", CODE + "goto x @; } }", CODE + "get A a @; } }", CODE + "x @: ret; } }", CODE + "try a b c d @; } }", "class A { } @", CODE + "push 1@; } }"};
        Bench x = new Bench();
        for (String text : texts) {
            x.wrongAt(text.replace("@", name));
        }
    }

    private static void numbers() {
        Bench.sentence(4, "above 2147483647 WRONG at their first digit;");
        Bench x = new Bench();
        x.right(CODE + "push 2147483647" + END, 1);
        x.right(CODE + "push -2147483647" + END, 1);
        String[] above = {"2147483648", "2147483649", "2147483650", "2147483657", "2147484000", "3000000000", "4294967295", "4294967296", "4294967297", "9999999999", "10000000000",
            "21474836470", "9223372036854775807", "9223372036854775808", "18446744073709551615", "18446744073709551616", "18446744073709551617", "1" + TextTest.many("0", 400)};
        String[] places = {"push @", "load @", "store @", "inc @ 1", "inc 1 @", "inc 1 -@", "source @", "sink @", "clean @", "mark @"};
        for (String number : above) {
            for (String place : places) {
                x.wrongAt(CODE + place.replace("@", "^" + number) + END);
            }
            x.wrongAt("class A { } ^" + number);
        }
    }

    private static void zeroes() {
        Bench.sentence(4, "NUMBERS, digits without a 0 ahead (0 itself)");
        Bench x = new Bench();
        x.right(CODE + "push 0; push 10; push 100; push 1000000000" + END, 1);
        x.wrongAt(CODE + "push 0^0" + END);
        x.wrongAt(CODE + "push 0^1" + END);
        x.wrongAt(CODE + "push 0^2147483647" + END);
        x.wrongAt(CODE + "push -0^7" + END);
        x.wrongAt(CODE + "load 0^0" + END);
        x.wrongAt(CODE + "mark 0^65535" + END);
        x.right("class A { method f(int) none { inc 00; inc 01; inc 032767; inc 0-0" + END, 1);
        x.wrongAt("class A { method f(int) none { inc 00^0" + END);
        x.wrongAt("class A { method f(int) none { inc 0 0^1" + END);
        x.wrongAt("class A { method f(int) none { inc 0^32768" + END);
    }

    private static void signs() {
        Bench.sentence(4, "the signs { } ( ) ; : and the comma and - .");
        Bench x = new Bench();
        x.right("class A:Any{method f(int,int)none{x:push-1;pop;goto x;}}", 1);
        for (char sign = 0; sign < 256; sign++) {
            boolean blank = sign == 9 || sign == 10 || sign == 13 || sign == 32 || sign == '#';
            if (!blank) {
                x.wrong("class A { " + (sign == '}' ? "}" : "") + sign + " }", sign == '}' ? 11 : 10);
                x.wrong(sign + "class A { }", 0);
            }
            if (!blank && sign != ';') {
                x.wrong(CODE + "ret " + sign + " } }", CODE.length() + 4);
            }
        }
    }

    private static void blanks() {
        Bench.sentence(4, "Blanks are 9, 10, 13, 32, and from # up to 10 or the end.");
        Bench x = new Bench();
        for (char sign = 0; sign < 256; sign++) {
            if (sign == 9 || sign == 10 || sign == 13 || sign == 32) {
                x.right("class" + sign + "A" + sign + "{" + sign + "field" + sign + "a" + sign + "int" + sign + ";" + sign + "}" + sign, 0);
                x.right(sign + "class A { }" + sign + sign, 0);
                x.wrong("" + sign, 1);
            } else if (sign == '#') {
                x.right("class A { }#", 0);
                x.wrong("class#A { }", 11);
                x.wrong("#", 1);
            } else {
                x.wrong("class A { }" + sign, 11);
                x.wrong("class A {" + sign + sign, sign == '}' ? 10 : 9);
            }
        }
    }

    private static void comments() {
        Bench.sentence(4, "and from # up to 10 or the end.");
        Bench x = new Bench();
        StringBuilder all = new StringBuilder("#");
        for (char sign = 0; sign < 256; sign++) {
            if (sign != 10) {
                all.append(sign);
            }
        }
        x.right("class A { }" + all, 0);
        x.right("class A {" + all + "\n}" + all + all + "\n" + all, 0);
        x.wrong("class A {" + all + "}", 9 + all.length() + 1);
        x.right("class#\nA#\n{#\n}#", 0);
        x.right("#" + TextTest.many("#", 3987) + "\nclass A{}#", 0);
        x.wrongAt("class A { #\r}\r^");
        x.wrongAt("class A { #\n#\n ^?");
        x.right(CODE + "push#5;\n-#6;\n7#8" + "\n" + END, 1);
        x.wrongAt("^cl#\nass A { }");
    }

    private static void wordsAreNoNames() {
        Bench.sentence(4, "The WORDS class field static method virtual int ref none try, and those of instructions, are no NAMES.");
        Bench x = new Bench();
        String words = "class field static method virtual int ref none try push load store inc " + PLAIN + " " + LABELLED + " " + CLASSED + " " + MEMBERED + " source sink clean mark";
        Bench.due("how many WORDS", words.split(" ").length, 68);
        for (String word : words.split(" ")) {
            x.wrongAt("class ^" + word + " { }");
            x.wrongAt("class A : ^" + word + " { }");
            x.wrongAt("class A { field ^" + word + " int; }");
            x.wrongAt("class A { virtual ^" + word + "() none { ret; } }");
            x.wrongAt(CODE + "goto ^" + word + END);
            x.wrongAt(CODE + "get A ^" + word + END);
            x.wrongAt(CODE + "try a b ^" + word + " Any" + END);
            String name = word.substring(0, 1).toUpperCase() + word.substring(1);
            x.right("class " + name + " { field " + word + "1 int; field q" + word + " int; }", 0);
        }
    }

    private static void bounds() {
        Bench.sentence(4, "A NUMBER that is not in the bounds told where it stands is WRONG at it.");
        Bench x = new Bench();
        String head = "class A { method f(int, int, int, int, int, int) none { ";
        for (String word : LOCALS.split(" ")) {
            String ahead = word.equals("sink") || word.equals("store") ? "push 1; " : "";
            x.right(head + ahead + word + " 0" + END, 1);
            x.right(head + ahead + (word.equals("load") ? "push 1; store 15; " : "") + word + " 15" + END, 1);
            x.wrongAt(head + ahead + word + " ^16" + END);
            x.wrongAt(head + ahead + word + " ^17" + END);
            x.wrongAt(head + ahead + word + " ^150" + END);
            x.wrongAt(head + ahead + word + " ^2147483647" + END);
            x.wrongAt(head + ahead + word + " ^-0" + END);
        }
        x.right(head + "inc 0 0; inc 5 32767; inc 5 - 32767; inc 0 -0; push 1; store 15; inc 15 1" + END, 1);
        x.wrongAt(head + "inc ^16 1" + END);
        x.wrongAt(head + "inc ^-1 1" + END);
        x.wrongAt(head + "inc 0 ^32768" + END);
        x.wrongAt(head + "inc 0 ^65535" + END);
        x.wrongAt(head + "inc 0 ^2147483647" + END);
        x.wrongAt(head + "inc 0 -^32768" + END);
        x.wrongAt(head + "inc 0 - ^32769" + END);
        Bench.sentence(4, "clean N; mark N (N at most 65535).");
        for (String word : "clean mark".split(" ")) {
            x.right(head + "push 1; " + word + " 0" + END, 1);
            x.right(head + "push 1; " + word + " 65535" + END, 1);
            x.wrongAt(head + "push 1; " + word + " ^65536" + END);
            x.wrongAt(head + "push 1; " + word + " ^2147483647" + END);
            x.wrongAt(head + "push 1; " + word + " ^-1" + END);
        }
    }

    private static void classes() {
        Bench.sentence(4, "A TEXT: 1 to 12 CLASSES.");
        Bench x = new Bench();
        x.wrongAt("^");
        x.right("class A { }", 0);
        Bench.due("CLASSES", x.house.count(0), 8);
        x.right(TextTest.many("class C%{}", 12), 0);
        Bench.due("CLASSES", x.house.count(0), 19);
        x.wrongAt(TextTest.many("class C%{}", 12) + " ^class D { }");
        x.wrongAt(TextTest.many("class C%{}", 12) + " ^class");
        x.wrongAt(TextTest.many("class C%{}", 13).replace("class Cc", "^class Cc"));
        x.right(TextTest.many("class C%{}", 11) + "class B{} # class D {}", 0);
    }

    private static void parents() {
        Bench.sentence(4, "CLASS: class NAME { MEMBERS } or class NAME : NAME { MEMBERS }, the second one is its PARENT.");
        Bench x = new Bench();
        x.right("class A { } class B : A { } class C:B{ }", 0);
        Bench.due("PARENT of A", x.house.type(7, 0), 0);
        Bench.due("PARENT of B", x.house.type(8, 0), 7);
        Bench.due("PARENT of C", x.house.type(9, 0), 8);
        x.wrongAt("class A : ^{ }");
        x.wrongAt("class A ^B { }");
        x.wrongAt("class A : B ^, C { }");
        x.wrongAt("class ^: A { }");
        x.wrongAt("class A ^( }");
        x.wrongAt("class A ^}");
    }

    private static void members() {
        Bench.sentence(4, "MEMBERS, none of them too: field NAME KIND ;");
        Bench x = new Bench();
        x.right("class A { } class B {} class C : B { }", 0);
        x.wrongAt("class A { ^; }");
        x.wrongAt("class A { field a int; ^; }");
        x.wrongAt("class A { field a int ^}");
        x.wrongAt("class A { field ^int; }");
        x.wrongAt("class A { field a ^b; }");
        x.wrongAt("class A { field a ^none; }");
        x.wrongAt("class A { static a ^none; }");
        x.wrongAt("class A { field a^, b int; }");
    }

    private static void fields() {
        Bench.sentence(4, "field NAME KIND ; (at most 8 a class)");
        Bench x = new Bench();
        String eight = TextTest.many("field f% int; ", 8);
        x.right("class A { " + eight + "}", 0);
        Bench.due("FIELDS", x.house.type(7, 1), 8);
        x.wrongAt("class A { " + eight + "^field g int; }");
        x.wrongAt("class A { " + eight + "static s int; method m() none { ret; } ^field g ref; }");
        x.right("class A { " + eight + "static s int; method m() none { ret; } } class B { " + eight + "} class C : B { " + eight + "}", 1);
        Bench.due("FIELDS with those above", x.house.type(9, 1), 16);
        x.wrongAt("class A { } class C : A { " + eight + "^field g int; }");
    }

    private static void statics() {
        Bench.sentence(4, "static NAME KIND ; (at most 16 in all)");
        Bench x = new Bench();
        x.right("class A { " + TextTest.many("static s% int; ", 16) + "}", 0);
        Bench.due("statics", x.house.count(2), 16);
        x.right("class A { " + TextTest.many("static s% int; ", 15) + "} class B { static s0 ref; field a int; }", 0);
        Bench.due("statics", x.house.count(2), 16);
        x.wrongAt("class A { " + TextTest.many("static s% int; ", 16) + "^static t int; }");
        x.wrongAt("class A { " + TextTest.many("static s% int; ", 15) + "} class B { static t int; field a int; ^static u ref; }");
    }

    private static void methods() {
        Bench.sentence(4, "method NAME ( KINDS ) RESULT { ITEMS } and virtual NAME ( KINDS ) RESULT { ITEMS } (at most 24 METHODS in all).");
        Bench x = new Bench();
        String twelve = TextTest.many("method m%()none{ret;} ", 12);
        String others = TextTest.many("virtual v%()none{ret;} ", 12);
        x.right("class A { " + twelve + others + "}", 24);
        x.right("class A { " + twelve + "} class B { " + others + "}", 24);
        x.wrongAt("class A { " + twelve + others + "^method n() none { ret; } }");
        x.wrongAt("class A { " + others + twelve + "^virtual n() none { ret; } }");
        x.wrongAt("class A { " + twelve + "} class B : A { " + others + "field a int; ^method n() none { ret; } }");
    }

    private static void kinds() {
        Bench.sentence(4, "KINDS: none, or 1 to 6 with , between.");
        Bench x = new Bench();
        for (String sort : "method virtual".split(" ")) {
            String head = "class A { " + sort + " f(";
            for (int kinds = 0; kinds <= 6; kinds++) {
                String told = TextTest.many("int, ", kinds).replaceAll(", $", "");
                x.right(head + told + ") none { ret; } }", 1);
                Bench.due("KINDS", x.house.method(0, 1), kinds);
                x.wrongAt(head + told + (kinds == 0 ? "^," : kinds == 6 ? "^, " : ", ^") + ") none { ret; } }");
            }
            x.wrongAt(head + "^, int) none { ret; } }");
            x.wrongAt(head + "int ^ref) none { ret; } }");
            x.wrongAt(head + "int,^,int) none { ret; } }");
            x.wrongAt(head + "^1) none { ret; } }");
            x.wrongAt(head + "^none) none { ret; } }");
            x.wrongAt(head + "int, ^none) none { ret; } }");
        }
        Bench.sentence(4, "A seventh KIND is WRONG at the comma ahead of it;");
        x.wrongAt("class A { method f(int, ref, int, ref, int, ref^, int) none { ret; } }");
        x.wrongAt("class A { virtual f(int,ref,int,ref,int,ref ^,");
        x.wrongAt("class A { virtual f(int,int,int,int,int,int^;int) none { ret; } }");
    }

    private static void memberKinds() {
        Bench.sentence(4, "KIND: int or ref.");
        Bench x = new Bench();
        x.right("class A { field a int; field b ref; static c int; static d ref; method f(int, ref) none { ret; } }", 1);
        for (String place : "field a @;,static a @;,method f(@) none { ret; },virtual v(int, @) none { ret; }".split(",(?! )")) {
            for (String word : "none 0 a Int REF class ; { -".split(" ")) {
                x.wrongAt("class A { " + place.replace("@", "^" + word) + " }");
            }
        }
    }

    private static void results() {
        Bench.sentence(4, "RESULT: int, ref or none.");
        Bench x = new Bench();
        x.right("class A { method f() int { push 1; ret; } method g() ref { null; ret; } method h() none { ret; } }", 3);
        for (int m = 0; m < 3; m++) {
            Bench.due("RESULT of " + m, x.house.method(m, 2), m == 2 ? 0 : m + 1);
        }
        x.wrongAt("class A { method f() ^{ ret; } }");
        x.wrongAt("class A { method f() ^A { ret; } }");
        x.wrongAt("class A { method f() int ^int { ret; } }");
        x.wrongAt("class A { method f() ^; }");
    }

    private static void tries() {
        Bench.sentence(4, "try NAME NAME NAME NAME ; (from, to, at: LABELS; a class; at most 8 a METHOD);");
        Bench x = new Bench();
        String method = "method f%() none { a: ret; b: " + TextTest.many("try a b c Any; ", 8) + "c: pop; ret; @} ";
        x.right("class A { " + method.replace("%", "").replace("@", "") + "}", 1);
        x.right("class A { " + TextTest.many(method.replace("@", ""), 3) + "} class B { " + method.replace("%", "").replace("@", "") + "}", 4);
        x.wrongAt("class A { " + method.replace("%", "").replace("@", "^try a b c Any; ") + "}");
        x.wrongAt("class A { " + method.replace("%", "1").replace("@", "") + method.replace("%", "2").replace("@", "^try") + "}");
        // The most of all: 8 in each of 24 METHODS; the last one of the last METHOD catches.
        String each = "{a:null;throw;b:pop;ret;c:pop;ret;" + TextTest.many("try a b b A;", 7) + "try a b c Any;}";
        x.right("class A{" + TextTest.many("method f%()none" + each, 24) + "}", 24);
        x.runOf(23, 0, 0, 0, 4);
        String last = "{a:null;throw;b:pop;ret;c:pop;ret;" + TextTest.many("try a b b A;", 7);
        x.faultAt(2, "class A{" + TextTest.many("method f%()none" + each, 23) + "method z()none" + last + "try a b c ^None;}}");
        x.faultAt(4, "class A{" + TextTest.many("method f%()none" + each, 23) + "method z()none" + last + "try ^b b c Any;}}");
        x.wrongAt(CODE + "try a b c^; } }");
        x.wrongAt(CODE + "try a b c d ^e; } }");
        x.wrongAt(CODE + "try ^; } }");
        x.wrongAt(CODE + "try a b c ^8; } }");
    }

    private static void codes() {
        Bench.sentence(4, "an INSTRUCTION and ; (at most 100 a METHOD).");
        Bench x = new Bench();
        x.right(CODE + "a: " + TextTest.many("null; l%: pop; ", 49) + "null; b: ret; " + TextTest.many("try a b l0 Any; ", 8) + "c: } }", 1);
        Bench.due("INSTRUCTIONS", x.house.method(0, 4), 100);
        String body = TextTest.many("null; pop; ", 49) + "null; ret; ";
        x.right("class A { method f() none { " + body + "} method g() none { " + body + "} } class B { method f() none { " + body + "} }", 3);
        Bench.due("INSTRUCTIONS of the last", x.house.method(2, 4), 100);
        x.wrongAt("class A { method f() none { " + body + "^ret; } }");
        x.wrongAt("class A { method f() none { ret; } method g() none { " + body + "x: try x x x Any; ^push");
        x.wrongAt(CODE + "ret ^}");
        x.wrongAt(CODE + "ret; ^; } }");
    }

    private static void oneTooMany() {
        Bench.sentence(4, "a 13th CLASS, 9th field, 17th static, 25th METHOD, 9th try, 101st INSTRUCTION at its WORD.");
        Bench x = new Bench();
        x.wrongAt(TextTest.many("class C%{} ", 12) + "^class C0 { }");
        x.wrongAt("class A { " + TextTest.many("field f% int; ", 8) + "^field f0 none; }");
        x.wrongAt("class A { " + TextTest.many("static f% int; ", 16) + "^static ?");
        x.wrongAt("class A { " + TextTest.many("method f%()none{ret;} ", 24) + "^virtual 7");
        x.wrongAt("class A { " + TextTest.many("method f%()none{ret;} ", 24) + "^method f0");
        x.wrongAt(CODE + "a: ret; b: " + TextTest.many("try a b a Any; ", 8) + "^try a b a abcdefghijklmn; } }");
        x.wrongAt(CODE + TextTest.many("ret; ", 100) + "^push 2147483648; } }");
        x.wrongAt(CODE + TextTest.many("ret; ", 100) + "^add ?");
        Bench.sentence(4, "What is one too many is WRONG at its first byte.");
        x.wrongAt("class A { " + TextTest.many("field f% int; ", 8) + "^field");
        x.wrongAt(CODE + TextTest.many("ret; ", 100) + "^ret");
    }

    private static void pushes() {
        Bench.sentence(4, "push N, push - N (at most 2147483648 then);");
        Bench x = new Bench();
        String[] numbers = {"0", "1", "2147483646", "2147483647", "-0", "-1", "-2147483647", "-2147483648", "- 2147483648", "-#\n2147483648"};
        int[] due = {0, 1, 2147483646, 2147483647, 0, -1, -2147483647, -2147483648, -2147483648, -2147483648};
        for (int i = 0; i < numbers.length; i++) {
            x.code("", "int", "push " + numbers[i] + "; ret;").run(1, due[i], 0, 2);
        }
        x.wrongAt(CODE + "push ^2147483648" + END);
        x.wrongAt(CODE + "push -^2147483649" + END);
        x.wrongAt(CODE + "push - ^4294967296" + END);
        x.wrongAt(CODE + "push - ^21474836480" + END);
        Bench.sentence(4, "inc k N, inc k - N (N at most 32767);");
        String[] steps = {"0", "1", "32767", "-0", "-1", "-32767", "- 32767"};
        int[] sums = {9, 10, 32776, 9, 8, -32758, -32758};
        for (int i = 0; i < steps.length; i++) {
            x.code("", "int", "push 9; store 3; inc 3 " + steps[i] + "; load 3; ret;").run(1, sums[i], 0, 5);
        }
        x.wrongAt(CODE + "inc 3 ^32768" + END);
        x.wrongAt(CODE + "inc 3 -^32768" + END);
        x.wrongAt(CODE + "inc 3 -^2147483648" + END);
    }

    /** Each INSTRUCTION has just what is told to it: not one thing less, not one more. */
    private static void toldToCodes() {
        Bench.sentence(4, "INSTRUCTIONS, with what is told to them (L a LABEL, C a class, N a NUMBER, k a NUMBER 0 .. 15):");
        Bench x = new Bench();
        for (String word : PLAIN.split(" ")) {
            x.wrongAt(CODE + word + " ^1" + END);
            x.wrongAt(CODE + word + " ^A" + END);
            x.wrongAt(CODE + word + " ^-" + END);
        }
        for (String word : (LABELLED + " " + CLASSED).split(" ")) {
            x.wrongAt(CODE + word + " ^" + END);
            x.wrongAt(CODE + word + " ^1" + END);
            x.wrongAt(CODE + word + " A ^B" + END);
            x.wrongAt(CODE + word + " A ^1" + END);
        }
        for (String word : MEMBERED.split(" ")) {
            x.wrongAt(CODE + word + " ^" + END);
            x.wrongAt(CODE + word + " A ^" + END);
            x.wrongAt(CODE + word + " A ^1" + END);
            x.wrongAt(CODE + word + " ^0 A" + END);
            x.wrongAt(CODE + word + " A b ^c" + END);
        }
        for (String word : (LOCALS + " clean mark push").split(" ")) {
            x.wrongAt(CODE + word + " ^" + END);
            x.wrongAt(CODE + word + " ^A" + END);
            x.wrongAt(CODE + word + " 1 ^2" + END);
            x.wrongAt(CODE + word + " 1 ^-" + END);
        }
        x.wrongAt(CODE + "inc ^" + END);
        x.wrongAt(CODE + "inc 1 ^" + END);
        x.wrongAt(CODE + "inc 1 - ^" + END);
        x.wrongAt(CODE + "inc 1 1 ^1" + END);
        x.wrongAt(CODE + "inc ^A 1" + END);
        x.wrongAt(CODE + "inc 1 ^A" + END);
    }

    private static void minus() {
        Bench.sentence(4, "- and what is behind it are two TOKENS; -0 is 0; 2147483648 is WRONG but behind push - .");
        Bench x = new Bench();
        x.code("", "int", "push -#\n 5; ret;").run(1, -5);
        x.code("", "int", "push-5;ret;").run(1, -5);
        x.code("", "int", "push 7; store 1; inc 1-5; inc 1 -\t1; load 1; ret;").run(1, 1);
        x.code("", "int", "push -0; ret;").run(1, 0);
        x.wrongAt(CODE + "push - ^- 5" + END);
        x.wrongAt(CODE + "push -^;" + END);
        x.wrongAt(CODE + "push 5^-" + END);
        x.wrongAt(CODE + "push ^2147483648" + END);
        x.wrongAt(CODE + "inc 1 ^2147483648" + END);
        x.wrongAt(CODE + "inc 1 - ^2147483648" + END);
        x.wrongAt(CODE + "load ^2147483648" + END);
        x.wrongAt(CODE + "mark ^2147483648" + END);
        x.wrongAt(CODE + "push 1; ^- 2147483648" + END);
        x.wrongAt("class A { } ^2147483648");
        x.wrongAt("^- 2147483648");
        x.wrongAt("class ^-2147483648 { }");
    }

    private static void labels() {
        Bench x = new Bench();
        Bench.sentence(4, "ITEMS: NAME : is a LABEL;");
        x.right(CODE + "goto z; y: goto x; z: goto y; x: w: ret; v: } }", 1).run(0, 0, 0, 4);
        Bench.due("INSTRUCTIONS", x.house.method(0, 4), 4);
        Bench.sentence(4, "A NAME among ITEMS must have : behind it.");
        x.right(CODE + "x: y : z\n:ret; } }", 1);
        x.wrongAt(CODE + "x^; ret; } }");
        x.wrongAt(CODE + "x ^ret; } }");
        x.wrongAt(CODE + "x ^} }");
        x.wrongAt(CODE + "x ^y: ret; } }");
        x.wrongAt(CODE + "x^");
        x.wrongAt(CODE + "x:^: ret; } }");
        x.wrongAt(CODE + "^: ret; } }");
        x.wrongAt(CODE + "ret; pusj ^5; } }");
        x.wrongAt(CODE + "ret; abcdefghijkl^; } }");
        x.right(CODE + TextTest.many("l%:", 900) + "ret; } }", 1);
        Bench.due("LABELS are no INSTRUCTIONS", x.house.method(0, 4), 1);
    }

    private static void empty() {
        Bench.sentence(4, "TEXTS: an empty one is WRONG at its end.");
        Bench x = new Bench();
        Bench.due("text() of a new object", x.house.text(), -1);
        x.wrong("", 0);
        x.wrong(" ", 1);
        x.wrong("#", 1);
        x.wrong("# class A { }", 13);
        x.wrong("#\n", 2);
        x.wrong(TextTest.many(" ", 4000), 4000);
        x.wrong(TextTest.many("#", 4000), 4000);
        Bench.put(x.house, "class A { }");
        x.house.end(0);
        Bench.due("text() behind end(0)", x.house.text(), -1);
    }

    /** As many different NAMES as a tape can hold, all LABELS of one METHOD. */
    private static void mostNames() {
        Bench.sentence(4, "THE TAPE has at most 4000 bytes.");
        String head = "class A{method f()none{goto Z0;";
        String letters = "abcdefghijklmnopqrstuvwxyzABCDEFGHIJKLMNOPQRSTUVWXYZ";
        StringBuilder text = new StringBuilder(head);
        for (int i = 0; i < 52; i++) {
            text.append(letters.charAt(i)).append(':');
        }
        int names = 52;
        for (int i = 0; text.length() < 3900; i++) {
            String name = "" + letters.charAt(i / 62 % 52) + (letters + "0123456789").charAt(i % 62);
            if (!"as is or Z0".contains(name)) {
                text.append(name).append(':');
                names++;
            }
        }
        Bench.due("many different NAMES", names > 1300, true);
        Bench x = new Bench();
        String most = text.toString() + "ret;Z0:null;throw;";
        while (most.length() < 3994) {
            most = most + ' ';
        }
        x.right(most + "Za:}}", 1);
        x.run(3, 0, 0, 3);
        x.faultAt(1, most + "^Z0:}}");
        x.faultAt(1, most + "^ur:}}");
        x.faultAt(1, most + "^a:}}");
        x.faultAt(2, most.replace("goto Z0", "goto ^Z1") + "Za:}}");
        // As many LABELS as can stand, all of one NAME; as many different NAMES in texts that are WRONG.
        String same = "class A{method f()none{a:^a:" + TextTest.many("a:", 1983);
        x.faultAt(1, same + "ret;}}");
        x.wrongAt(text + "ret;}}^?");
    }

    /** As many INSTRUCTIONS as a tape can hold: 12 METHODS of 100, and one more. */
    private static void mostCodes() {
        Bench.sentence(4, "an INSTRUCTION and ; (at most 100 a METHOD).");
        String hundred = "method m%()none{ret;" + TextTest.many("or;", 99) + "}";
        Bench x = new Bench();
        x.right("class A{" + TextTest.many(hundred, 12) + "method z()int{goto x;" + TextTest.many("or;", 40) + "x:push 7;ret;}}", 13);
        x.runOf(12, 1, 7, 0, 3);
        Bench.due("INSTRUCTIONS", x.house.method(11, 4), 100);
        Bench.due("INSTRUCTIONS", x.house.method(12, 4), 43);
        x.faultAt(5, "class A{" + TextTest.many(hundred, 12) + "method z()int{goto x;" + TextTest.many("or;", 40) + "x:^or;ret;}}");
        x.faultAt(2, "class A{" + TextTest.many(hundred, 12) + "method z()int{ret;" + TextTest.many("or;", 40) + "goto ^x;}}");
    }
}
