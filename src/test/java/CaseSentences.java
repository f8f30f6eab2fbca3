/** The case: promises 1 to 10. */
public final class CaseSentences extends Bench {
    // ---- promise 1

    @Says(promise = 1, words = "No SAYINGS, no KIND that LIVES.")
    static void p01ANewObjectHasNothing() {
        SomeAreNoneIs x = new SomeAreNoneIs();
        int[] counts = {0, 0, 0, ALL_MOODS, 0, 0, 0, 0};
        for (int what = 0; what < counts.length; what++) {
            due("count(" + what + ")", counts[what], x.count(what));
        }
        dueNone("saying(0, 0)", x, y -> y.saying(0, 0));
        dueNone("pleaded(0, 0)", x, y -> y.pleaded(0, 0));
        dueNone("row(0)", x, y -> y.row(0));
        for (int i = 0; i < 3; i++) {
            due("again(" + i + ")", false, x.again(i));
        }
        due("holds()", 1, x.holds());
        due("town()", 0, x.town());
    }

    @Says(promise = 1, words = "No SAYINGS, no KIND that LIVES.")
    static void p01ANewObjectHasNothingOfAnother() {
        busy();
        dueSame("another object", new SomeAreNoneIs(), new SomeAreNoneIs());
        SomeAreNoneIs x = new SomeAreNoneIs();
        due("follows(Aab)", 0, x.follows(c("Aab")));
        due("follows(Iaa)", 0, x.follows(c("Iaa")));
    }

    // ---- promise 2

    @Says(promise = 2, words = "Four signs come behind THE TEXT, of v the highest byte first: how many it has.")
    static void p02FourSignsComeBehindTheText() {
        SomeAreNoneIs x = new SomeAreNoneIs();
        for (int n = 4; n <= 80; n += 4) {
            due("sign()", n, x.sign(0));
            due("count(7)", n, x.count(7));
        }
        x.end(0);
        due("sign(Aab@)", 4, x.sign('A' << 24 | 'a' << 16 | 'b' << 8 | '@'));
        due("sign(3?..)", 8, x.sign('3' << 24 | '?' << 16 | 'x' << 8 | 'y'));
        x.end(6);
        due("told()", 1, x.told());
        due("saying(0, 0)", c("Aab"), x.saying(0, 0));
        due("saying(0, 1)", 3, x.saying(0, 1));
        due("saying(0, 2)", 1, x.saying(0, 2));
        x.sign('A' << 24);
        x.end(1);
        due("sign() behind one sign", 5, x.sign('a' << 24 | 'b' << 16 | '@' << 8 | '0'));
        due("told()", 1, x.told());
    }

    @Says(promise = 2, words = "of v the highest byte first")
    static void p02EachByteIsASignOf0To255() {
        SomeAreNoneIs x = new SomeAreNoneIs();
        due("sign(MIN)", 4, x.sign(MIN));
        due("sign(MAX)", 8, x.sign(MAX));
        due("sign(-1)", 12, x.sign(-1));
        x.end(0);
        for (int place = 0; place < 5; place++) {
            StringBuilder text = new StringBuilder("Aab@0");
            text.setCharAt(place, (char) (text.charAt(place) + 128));
            due("told() of a sign above 127 at " + place, -1 - place, told(x, text.toString()));
            text.setCharAt(place, (char) 0);
            due("told() of a sign 0 at " + place, -1 - place, told(x, text.toString()));
            text.setCharAt(place, (char) 255);
            due("told() of a sign 255 at " + place, -1 - place, told(x, text.toString()));
        }
    }

    @Says(promise = 2, words = "Refused: there would be more than 80.")
    static void p02MoreThan80AreRefused() {
        for (int n = 73; n <= 80; n++) {
            int signs = n;
            Made made = () -> {
                SomeAreNoneIs x = busy();
                write(x, "Icd@4?" + times("x", signs - 6));
                return x;
            };
            if (n <= 76) {
                due("sign() behind " + n, n + 4, made.make().sign(-1));
                continue;
            }
            refused("sign() behind " + n, made, -1, x -> x.sign(-1));
            SomeAreNoneIs x = made.make();
            x.sign('A' << 24 | 'a' << 16 | 'b' << 8 | '@');
            due("count(7) behind it", n, x.count(7));
            x.end(6);
            due("told() of what it was", 1, x.told());
            due("saying(4, 0)", c("Icd"), x.saying(4, 0));
        }
    }

    // ---- promise 3

    @Says(promise = 3, words = "THE TEXT has its first n signs alone: true;")
    static void p03TheFirstSignsStay() {
        SomeAreNoneIs x = new SomeAreNoneIs();
        due("end(0) of an empty text", true, x.end(0));
        due("count(7)", 0, x.count(7));
        write(x, "Aab@0?;E");
        due("end(8) of 8", true, x.end(8));
        due("count(7)", 8, x.count(7));
        due("end(6) of 8", true, x.end(6));
        due("count(7)", 6, x.count(7));
        due("end(5) of 6", true, x.end(5));
        due("told()", 1, x.told());
        due("saying(0, 2): the ? is gone", 0, x.saying(0, 2));
        write(x, times("x", 80));
        due("end(80) of 80", true, x.end(80));
        due("count(7)", 80, x.count(7));
        due("end(0) of 80", true, x.end(0));
        due("count(7)", 0, x.count(7));
        due("told() of nothing", 0, x.told());
    }

    @Says(promise = 3, words = "false if it has not so many,")
    static void p03NotSoManyIsFalse() {
        for (int n : new int[] {0, 1, 6, 79, 80}) {
            Made made = () -> {
                SomeAreNoneIs x = busy();
                write(x, ("Icd@4?" + times("x", 74)).substring(0, n));
                return x;
            };
            for (int more : new int[] {n + 1, n + 2, 81, 1000, MAX}) {
                refused("end(" + more + ") of " + n, made, 0, x -> x.end(more) ? 1 : 0);
            }
        }
        SomeAreNoneIs y = new SomeAreNoneIs();
        write(y, "Aab@0?");
        y.end(5);
        due("end(6) of what had 6 before", false, y.end(6));
        due("count(7)", 5, y.count(7));
    }

    @Says(promise = 3, words = "or n is below 0.")
    static void p03Below0IsFalse() {
        for (int n : new int[] {-1, -2, MIN}) {
            refusedAsFalse("end(" + n + ")", x -> x.end(n) ? 1 : 0);
            refused("end(" + n + ") of nothing", SomeAreNoneIs::new, 0, x -> x.end(n) ? 1 : 0);
        }
    }

    // ---- promise 4

    @Says(promise = 4, words = {"THE TEXT tells SAYINGS", "behind those there are: how many."})
    static void p04TheTextTellsSayingsBehindThoseThereAre() {
        SomeAreNoneIs x = new SomeAreNoneIs();
        due("told() of one", 1, told(x, "Aab@0"));
        due("told() of two", 2, told(x, "Ecd@1?;O-e-f@7"));
        due("count(0)", 3, x.count(0));
        int[] codes = {c("Aab"), c("Ecd"), c("O-e-f")};
        for (int i = 0; i < 3; i++) {
            due("saying(" + i + ", 0)", codes[i], x.saying(i, 0));
        }
        due("count(7)", 0, x.count(7));
        due("told() of twelve", 12, told(x, lines("Akl@3", 12)));
        due("count(0)", 15, x.count(0));
        due("told() of the 16th", 1, told(x, "Ilk@2?"));
        due("saying(15, 0)", c("Ilk"), x.saying(15, 0));
        due("saying(15, 2)", 1, x.saying(15, 2));
        due("count(5)", 65535, x.count(5));
    }

    @Says(promise = 4, words = "(an empty one: none)")
    static void p04AnEmptyTextTellsNone() {
        Made[] cases = {SomeAreNoneIs::new, Bench::sixteen, () -> {
            SomeAreNoneIs x = busy();
            x.end(0);
            return x;
        }};
        for (Made made : cases) {
            idleCall("told() of an empty text", made, 0, x -> x.told());
        }
    }

    @Says(promise = 4, words = "-1 - p: the sign at p can't stand there")
    static void p04TheFirstSignThatCantStandThere() {
        String line = "E-a-b@0?";
        String[] follow = {"AEIO", "-abcdefghijkl", "abcdefghijkl", "-abcdefghijkl", "abcdefghijkl", "@", "01234567", "?;", ";"};
        for (int place = 0; place <= line.length(); place++) {
            for (int sign = 0; sign < 256; sign++) {
                String text = line.substring(0, place) + (char) sign;
                boolean can = follow[place].indexOf(sign) >= 0;
                SomeAreNoneIs x = new SomeAreNoneIs();
                int got = told(x, text + "xx");
                if (can && got == -1 - place) {
                    fail("told() of sign " + sign + " at " + place + " answered " + got + ", but it can stand there");
                } else if (!can && got != -1 - place) {
                    fail("told() of sign " + sign + " at " + place + " answered " + got + ", due is " + (-1 - place));
                }
            }
        }
        refusedText("told() wrong at its first sign", Bench::busy, -1, "xab@0", x -> x.told());
        refusedText("told() wrong in its second LINE", Bench::busy, -7, "Aab@0;x", x -> x.told());
        refusedText("told() of ; alone", Bench::busy, -1, ";", x -> x.told());
        refusedText("told() of two ;", Bench::busy, -7, "Aab@0;;Aab@0", x -> x.told());
        refusedText("told() wrong in its last sign", Bench::busy, -12, "Aab@0;Aab@0x", x -> x.told());
    }

    @Says(promise = 4, words = "(its end, if it ends too early;")
    static void p04ItsEndIfItEndsTooEarly() {
        String text = "A-a-b@0?;Ecd@1;I-ef@2;Ogh@3";
        for (int n = 1; n < text.length(); n++) {
            String start = text.substring(0, n);
            boolean whole = start.matches(".*@[0-7]\\??");
            if (whole) {
                due("told() of " + start, start.split(";").length, told(new SomeAreNoneIs(), start));
            } else {
                due("told() of " + start, -1 - n, told(new SomeAreNoneIs(), start));
                refusedText("told() of " + start, Bench::busy, -1 - n, start, x -> x.told());
            }
        }
    }

    /** LINES of so many signs in all, with the ; behind the last one: 12 and more. */
    private static String filler(int signs) {
        int count = signs / 6;
        int more = signs % 6;
        StringBuilder text = new StringBuilder();
        for (int i = 0; i < count; i++) {
            String[] sizes = {"Aab@0;", "Aab@0?;", "A-ab@0?;", "A-a-b@0?;"};
            int size = Math.min(3, more);
            text.append(sizes[size]);
            more -= size;
        }
        return text.toString();
    }

    @Says(promise = 4, words = "76, if it has more and the first 76 could go on or end;")
    static void p04Behind76() {
        String[] ends = {"A-a-b@0", "A-a-b@0?", "Aab@7"};
        for (String end : ends) {
            String text = filler(76 - end.length()) + end;
            due("told() of 76 signs, " + end, text.split(";").length, told(new SomeAreNoneIs(), text));
        }
        String[] open = {"", "A", "A-", "A-a", "A-a-", "A-a-b", "A-a-b@", "A-a-b@0", "A-a-b@0?", "Aab", "Aab@7"};
        String[] more = {"x", ";", "?", "0", "A", "a", ";Aab", "0?;A", "xxxx", "??", "-b@0", "@00", "\u0000"};
        for (String end : open) {
            String text = filler(76 - end.length()) + end;
            due("signs of the text", 76, text.length());
            for (String behind : more) {
                due("told() of 76 signs and more, " + end + " and " + behind, -77, told(new SomeAreNoneIs(), text + behind));
            }
        }
        refusedText("told() of 77 signs", Bench::busy, -77, filler(76 - 5) + "Aab@7?", x -> x.told());
        refusedText("told() of 80 signs", Bench::busy, -77, filler(76 - 5) + "Aab@7;Aab", x -> x.told());
    }

    @Says(promise = 4, words = "76, if it has more and the first 76 could go on or end;")
    static void p04WhatIsWrongWithinTheFirst76IsToldFirst() {
        for (int place = 72; place <= 75; place++) {
            String text = filler(72) + "Aab@0;Aa";
            StringBuilder wrong = new StringBuilder(text);
            wrong.setCharAt(place, 'x');
            due("told() of 80 signs, wrong at " + place, -1 - place, told(new SomeAreNoneIs(), wrong.toString()));
            due("told() of 77 signs, wrong at " + place, -1 - place, told(new SomeAreNoneIs(), wrong.substring(0, 77)));
            due("told() of 76 signs, wrong at " + place, -1 - place, told(new SomeAreNoneIs(), wrong.substring(0, 76)));
        }
        // 76 signs that end too early: their end is 76 as well.
        due("told() of 76 signs that end too early", -77, told(new SomeAreNoneIs(), filler(75) + "A"));
        due("told() of 75 signs that end too early", -76, told(new SomeAreNoneIs(), filler(74) + "A"));
        due("told() of 76 signs that end with ;", -77, told(new SomeAreNoneIs(), filler(76)));
    }

    @Says(promise = 4, words = "the FORM of a LINE for which there is no room).")
    static void p04TheFormOfALineForWhichThereIsNoRoom() {
        String[] ofNone = {"Aab@0", "Aab@0?;Abc@1", "A", "x", ";", "-", lines("Aab@0", 12)};
        for (String text : ofNone) {
            refusedText("told() of " + text + " behind 16", Bench::sixteen, -1, text, x -> x.told());
        }
        String[] ofOne = {"Aab@0;Abc@1", "Aab@0;", "Aab@0;x", "Aab@0;A", "Aab@0;Aab@0;x"};
        for (String text : ofOne) {
            refusedText("told() of " + text + " behind 15", Bench::sixteenLess, -7, text, x -> x.told());
        }
        due("told() of one behind 15", 1, told(sixteenLess(), "A-a-b@0?"));
        due("told() of two behind 15, longer ones", -10, told(sixteenLess(), "A-a-b@0?;A-a-b@0?"));
        due("told() wrong ahead of it", -3, told(sixteenLess(), "Aax@0;Abc@1"));
        due("told() that ends ahead of it", -5, told(sixteenLess(), "Aab@"));
        SomeAreNoneIs twelve = court(lines("Aab@0", 12));
        due("told() of five behind 12", -25, told(twelve, lines("Abc@1", 5)));
        due("told() of 80 signs behind 12", -25, told(twelve, lines("Abc@1", 13) + ";Aa"));
        due("count(0)", 12, twelve.count(0));
        due("told() of four behind 12", 4, told(twelve, lines("Abc@1", 4)));
        // A WITHDRAWN one takes room, too.
        twelve.mark(3, 1, true);
        due("told() behind 16, one of them WITHDRAWN", -1, told(twelve, "Aab@0"));
    }

    // ---- promise 5

    @Says(promise = 5, words = "Of a SAYING, what 0: CODE, 1: WITNESS, 2: 1 if DOUBTED, 3: 1 if WITHDRAWN.")
    static void p05OfASaying() {
        SomeAreNoneIs x = court("Aaa@0;O-l-l@7?");
        int[][] want = {{0, 0, 0, 0}, {2303, 7, 1, 0}};
        for (int i = 0; i < 2; i++) {
            for (int what = 0; what < 4; what++) {
                due("saying(" + i + ", " + what + ")", want[i][what], x.saying(i, what));
            }
        }
        x.mark(0, 0, true);
        x.mark(1, 1, true);
        due("saying(0, 2)", 1, x.saying(0, 2));
        due("saying(0, 3)", 0, x.saying(0, 3));
        due("saying(1, 3)", 1, x.saying(1, 3));
        due("saying(1, 0) of a WITHDRAWN one", 2303, x.saying(1, 0));
        SomeAreNoneIs y = sixteen();
        due("saying(15, 0)", c("Ibb"), y.saying(15, 0));
        due("saying(15, 3)", 0, y.saying(15, 3));
    }

    @Says(promise = 5, words = "NoSuchElementException: none such, another what.")
    static void p05NoSuchSayingAndAnotherWhat() {
        for (int i : new int[] {-1, 4, 5, 15, 16, 17, 32, MIN, MAX}) {
            throwsNone("saying(" + i + ", 0)", x -> x.saying(i, 0));
            throwsNone("saying(" + i + ", 3)", x -> x.saying(i, 3));
        }
        for (int what : new int[] {-1, 4, MIN, MAX}) {
            throwsNone("saying(0, " + what + ")", x -> x.saying(0, what));
            throwsNone("saying(3, " + what + ")", x -> x.saying(3, what));
            throwsNone("saying(4, " + what + ")", x -> x.saying(4, what));
        }
        throwsNone("saying(0, 0) of none", SomeAreNoneIs::new, x -> x.saying(0, 0));
        throwsNone("saying(16, 0) of 16", Bench::sixteen, x -> x.saying(16, 0));
        SomeAreNoneIs y = new SomeAreNoneIs();
        told(y, "Aab@0;Abc@0;x");
        dueNone("saying(0, 0) of what was refused", y, z -> z.saying(0, 0));
    }

    // ---- promise 6

    @Says(promise = 6, words = "A SAYING is DOUBTED (what 0), WITHDRAWN (1), or not: true.")
    static void p06ASayingIsDoubtedOrWithdrawn() {
        SomeAreNoneIs x = sixteen();
        for (int i : new int[] {0, 7, 15}) {
            due("mark(" + i + ", 0, true)", true, x.mark(i, 0, true));
            due("mark(" + i + ", 0, true) again", true, x.mark(i, 0, true));
            due("saying(" + i + ", 2)", 1, x.saying(i, 2));
            due("saying(" + i + ", 3)", 0, x.saying(i, 3));
            due("mark(" + i + ", 1, true)", true, x.mark(i, 1, true));
            due("saying(" + i + ", 3)", 1, x.saying(i, 3));
            due("mark(" + i + ", 0, false)", true, x.mark(i, 0, false));
            due("mark(" + i + ", 0, false) again", true, x.mark(i, 0, false));
            due("saying(" + i + ", 2)", 0, x.saying(i, 2));
            due("saying(" + i + ", 3)", 1, x.saying(i, 3));
        }
        due("count(5)", 65535 - 1 - 128 - 32768, x.count(5));
        for (int i = 0; i < 16; i++) {
            x.mark(i, 1, true);
        }
        due("count(5), all are WITHDRAWN", 0, x.count(5));
        for (int i = 0; i < 16; i++) {
            x.mark(i, 1, false);
        }
        dueSame("mark() to and fro", x, sixteen());
    }

    @Says(promise = 6, words = "Refused: others.")
    static void p06OthersCantBeMarked() {
        for (boolean is : new boolean[] {true, false}) {
            for (int i : new int[] {-1, 4, 15, 16, 31, 32, MIN, MAX}) {
                refusedAsFalse("mark(" + i + ", 0, " + is + ")", x -> x.mark(i, 0, is) ? 1 : 0);
                refusedAsFalse("mark(" + i + ", 1, " + is + ")", x -> x.mark(i, 1, is) ? 1 : 0);
            }
            for (int what : new int[] {-1, 2, 3, MIN, MAX}) {
                refusedAsFalse("mark(0, " + what + ", " + is + ")", x -> x.mark(0, what, is) ? 1 : 0);
                refusedAsFalse("mark(2, " + what + ", " + is + ")", x -> x.mark(2, what, is) ? 1 : 0);
            }
            refused("mark(16, 1, " + is + ") of 16", Bench::sixteen, 0, x -> x.mark(16, 1, is) ? 1 : 0);
            refused("mark(0, 0, " + is + ") of none", SomeAreNoneIs::new, 0, x -> x.mark(0, 0, is) ? 1 : 0);
        }
        SomeAreNoneIs y = busy();
        y.mark(4, 0, true);
        y.mark(4, 1, true);
        told(y, "Akl@0");
        due("saying(4, 2): what was refused does not wait", 0, y.saying(4, 2));
        due("saying(4, 3)", 0, y.saying(4, 3));
    }

    // ---- promise 7

    @Says(promise = 7, words = "A KIND LIVES, or not: true.")
    static void p07AKindLivesOrNot() {
        SomeAreNoneIs x = new SomeAreNoneIs();
        for (int kind = 0; kind < 12; kind++) {
            due("lives(" + kind + ", true)", true, x.lives(kind, true));
            due("lives(" + kind + ", true) again", true, x.lives(kind, true));
            due("count(2)", (2 << kind) - 1, x.count(2));
        }
        for (int kind = 0; kind < 12; kind++) {
            due("lives(" + kind + ", false)", true, x.lives(kind, false));
            due("lives(" + kind + ", false) again", true, x.lives(kind, false));
            due("count(2)", 4095 - ((2 << kind) - 1), x.count(2));
        }
    }

    @Says(promise = 7, words = "Refused: others.")
    static void p07OthersDoNotLive() {
        for (int kind : new int[] {-1, 12, 13, 31, 32, 43, MIN, MAX}) {
            refusedAsFalse("lives(" + kind + ", true)", x -> x.lives(kind, true) ? 1 : 0);
            refusedAsFalse("lives(" + kind + ", false)", x -> x.lives(kind, false) ? 1 : 0);
        }
    }

    // ---- promise 8

    @Says(promise = 8, words = "A SAYING of its CODE is WANTED: how many are.")
    static void p08ASayingIsWanted() {
        SomeAreNoneIs x = court("Aab@0");
        x.allow(0);
        int[] codes = {0, 2303, c("Ebb"), c("A-b-a"), c("Iaa"), c("Ea-b")};
        for (int i = 0; i < 6; i++) {
            due("want(" + codes[i] + ")", i + 1, x.want(codes[i]));
            due("count(1)", i + 1, x.count(1));
        }
        due("gap(): Aaa, A-b-a and Ea-b follow", 1 + 8 + 32, x.gap());
    }

    @Says(promise = 8, words = "A SAYING of its CODE is WANTED: how many are.")
    static void p08ACodeThatIsWantedOrToldMayBeWanted() {
        SomeAreNoneIs x = court("Aab@0");
        x.allow(0);
        due("want(Aaa)", 1, x.want(0));
        due("want(Aaa) once more", 2, x.want(0));
        due("want(Aab), which is told", 3, x.want(c("Aab")));
        due("gap(): what is told is proved", 3, x.gap());
    }

    @Says(promise = 8, words = "Refused: none such, 6.")
    static void p08NoSuchCodeAndASeventhAreRefused() {
        for (int code : new int[] {-1, 2304, MIN, MAX}) {
            refused("want(" + code + ")", x -> x.want(code));
            refused("want(" + code + ") of nothing", SomeAreNoneIs::new, -1, x -> x.want(code));
        }
        Made six = () -> {
            SomeAreNoneIs x = busy();
            x.want(c("Aaa"));
            x.want(c("Ebb"));
            x.want(LAST_CODE);
            return x;
        };
        due("count(1)", 6, six.make().count(1));
        refused("want() of a seventh", six, -1, x -> x.want(c("Abb")));
        refused("want() of one that is WANTED", six, -1, x -> x.want(c("Aaa")));
        refused("want(-1) of a seventh", six, -1, x -> x.want(-1));
        SomeAreNoneIs y = six.make();
        y.forget();
        due("want() behind forget()", 1, y.want(2303));
    }

    // ---- promise 9

    @Says(promise = 9, words = "Nothing is WANTED: how many were.")
    static void p09NothingIsWanted() {
        idleCall("forget() of nothing", SomeAreNoneIs::new, 0, x -> x.forget());
        SomeAreNoneIs x = new SomeAreNoneIs();
        for (int n = 1; n <= 6; n++) {
            for (int i = 0; i < n; i++) {
                x.want(i);
            }
            due("forget() of " + n, n, x.forget());
            due("count(1)", 0, x.count(1));
            due("forget() again", 0, x.forget());
        }
        SomeAreNoneIs y = busy();
        due("forget() of three", 3, y.forget());
        due("gap()", 0, y.gap());
        due("want(Aac)", 1, y.want(c("Aac")));
        y.want(c("Aaa"));
        y.want(c("Ibc"));
        dueSame("forget(), and wanted anew", y, busy());
    }

    // ---- promise 10

    private static void dueSheet(int[] sheet, int bits) {
        SomeAreNoneIs x = new SomeAreNoneIs();
        x.sheet(2, 12, 1, 0);
        String call = "sheet(" + sheet[0] + ", " + sheet[1] + ", " + sheet[2] + ", " + sheet[3] + ")";
        due(call, Integer.bitCount(bits), x.sheet(sheet[0], sheet[1], sheet[2], sheet[3]));
        due(call + ", count(2)", bits, x.count(2));
    }

    @Says(promise = 10, words = {"KINDS that LIVE as a sheet tells it: KIND number k does, if entry k is above 0:", "how many do."})
    static void p10ThoseWithEntriesAbove0Live() {
        for (int kind = 0; kind < 3; kind++) {
            dueSheet(new int[] {kind, 3, -1, 1}, 4);
            dueSheet(new int[] {kind, 3, 1, -1}, 1);
            dueSheet(new int[] {kind, 12, 1, 0}, 4095);
            dueSheet(new int[] {kind, 12, 0, 0}, 0);
            dueSheet(new int[] {kind, 12, -1, 0}, 0);
            dueSheet(new int[] {kind, 12, -10, 1}, 2048);
            dueSheet(new int[] {kind, 12, 11, -1}, 2047);
        }
    }

    @Says(promise = 10, words = {"bytes (kind 0),", "of n entries f, f + step, .. (of bytes, shorts the lowest bits, with their sign),"})
    static void p10BytesWrapAround() {
        dueSheet(new int[] {0, 2, 127, 1}, 1);
        dueSheet(new int[] {0, 2, 127, -1}, 3);
        dueSheet(new int[] {0, 3, 255, 1}, 4);
        dueSheet(new int[] {0, 1, 128, 0}, 0);
        dueSheet(new int[] {0, 1, -128, 0}, 0);
        dueSheet(new int[] {0, 1, -129, 0}, 1);
        dueSheet(new int[] {0, 1, -255, 0}, 1);
        dueSheet(new int[] {0, 1, -256, 0}, 0);
        dueSheet(new int[] {0, 3, 0, 100}, 2);
        dueSheet(new int[] {0, 4, 1, 256}, 15);
        dueSheet(new int[] {0, 2, MAX, 1}, 0);
        dueSheet(new int[] {0, 2, MIN, 1}, 2);
    }

    @Says(promise = 10, words = {"shorts (1),", "of n entries f, f + step, .. (of bytes, shorts the lowest bits, with their sign),"})
    static void p10ShortsWrapAround() {
        dueSheet(new int[] {1, 2, 32767, 1}, 1);
        dueSheet(new int[] {1, 2, 32767, -1}, 3);
        dueSheet(new int[] {1, 3, 65535, 1}, 4);
        dueSheet(new int[] {1, 1, 32768, 0}, 0);
        dueSheet(new int[] {1, 1, -32768, 0}, 0);
        dueSheet(new int[] {1, 1, -32769, 0}, 1);
        dueSheet(new int[] {1, 1, 128, 0}, 1);
        dueSheet(new int[] {1, 1, 256, 0}, 1);
        dueSheet(new int[] {1, 3, 0, 30000}, 2);
        dueSheet(new int[] {1, 4, 1, 65536}, 15);
        dueSheet(new int[] {1, 2, MIN, 1}, 2);
    }

    @Says(promise = 10, words = {"ints (2)", "of n entries f, f + step, .."})
    static void p10IntsWrapAround() {
        dueSheet(new int[] {2, 2, MAX, 1}, 1);
        dueSheet(new int[] {2, 3, MAX - 1, 1}, 3);
        dueSheet(new int[] {2, 3, MIN, -1}, 6);
        dueSheet(new int[] {2, 3, MIN, MIN}, 0);
        dueSheet(new int[] {2, 4, 1, MAX}, 1 + 8);
        dueSheet(new int[] {2, 1, 65536, 0}, 1);
        dueSheet(new int[] {2, 1, 32768, 0}, 1);
        dueSheet(new int[] {2, 12, 1, 1 << 30}, 1 + 2 + 16 + 32 + 256 + 512);
    }

    @Says(promise = 10, words = "those behind it do not:")
    static void p10ThoseBehindTheSheetDoNotLive() {
        for (int n = 0; n <= 12; n++) {
            for (int kind = 0; kind < 3; kind++) {
                dueSheet(new int[] {kind, n, 1, 0}, (1 << n) - 1);
            }
        }
    }

    @Says(promise = 10, words = "-2: n below 0 (of kinds 0 .. 2; nothing changes);")
    static void p10NBelow0ChangesNothing() {
        for (int kind = 0; kind < 3; kind++) {
            for (int n : new int[] {-1, -12, MIN}) {
                int width = kind;
                refused("sheet(" + kind + ", " + n + ", 1, 1)", Bench::busy, -2, x -> x.sheet(width, n, 1, 1));
            }
        }
    }

    @Says(promise = 10, words = {"or a missing one (3):", "-3: missing (none)."})
    static void p10OfAMissingSheetNoneLive() {
        for (int n : new int[] {MIN, -1, 0, 1, 12}) {
            SomeAreNoneIs x = busy();
            due("sheet(3, " + n + ", 1, 1)", -3, x.sheet(3, n, 1, 1));
            due("count(2)", 0, x.count(2));
            SomeAreNoneIs twin = busy();
            for (int kind = 0; kind < 12; kind++) {
                twin.lives(kind, false);
            }
            dueSame("sheet(3, " + n + ", 1, 1)", x, twin);
        }
    }

    @Says(promise = 10, words = "NONE: another kind, n above 12 (these first).")
    static void p10AnotherKindAndNAbove12() {
        for (int kind : new int[] {-1, 4, MIN, MAX}) {
            for (int n : new int[] {MIN, -1, 0, 12, 13}) {
                refused("sheet(" + kind + ", " + n + ", 1, 1)", x -> x.sheet(kind, n, 1, 1));
            }
        }
        for (int kind = 0; kind <= 3; kind++) {
            for (int n : new int[] {13, 14, MAX}) {
                int width = kind;
                refused("sheet(" + kind + ", " + n + ", 1, 1)", x -> x.sheet(width, n, 1, 1));
            }
        }
    }

    public static void main(String[] args) {
        run(CaseSentences.class);
    }
}
