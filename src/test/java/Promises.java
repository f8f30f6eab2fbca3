import java.util.NoSuchElementException;

/** For each promise of the document its ordinary answers, the edges that it names, and wrong inputs. */
public final class Promises {
    private static final int ALL_MOODS = 4194303;
    private static int wrong = 0;
    private static int promise = 0;

    private static void due(String call, long want, long got) {
        if (got != want) {
            wrong++;
            System.out.println("promise " + promise + ": " + call + " answered " + got + ", due is " + want);
        }
    }

    private static void due(String call, boolean want, boolean got) {
        due(call, want ? 1 : 0, got ? 1 : 0);
    }

    /** The whole ROW, its length, and that there is nothing behind it nor ahead of it. */
    private static void dueRow(String call, SomeAreNoneIs x, int... want) {
        due(call + ", numbers of the ROW", want.length, x.count(6));
        for (int i = 0; i < want.length && i < x.count(6); i++) {
            due(call + ", row(" + i + ")", want[i], x.row(i));
        }
        dueNoRow(call, x, want.length);
        dueNoRow(call, x, -1);
    }

    private static void dueNoRow(String call, SomeAreNoneIs x, int i) {
        try {
            due(call + ", row(" + i + ") instead of NoSuchElementException", 0, 1 + 0 * x.row(i));
        } catch (NoSuchElementException e) {
            return;
        }
    }

    private static void dueNoSaying(SomeAreNoneIs x, int i, int what) {
        try {
            x.saying(i, what);
        } catch (NoSuchElementException e) {
            return;
        }
        due("saying(" + i + ", " + what + ") instead of NoSuchElementException", 0, 1);
    }

    private static void dueNoStep(SomeAreNoneIs x, int i, int what) {
        try {
            x.pleaded(i, what);
        } catch (NoSuchElementException e) {
            return;
        }
        due("pleaded(" + i + ", " + what + ") instead of NoSuchElementException", 0, 1);
    }

    private static void write(SomeAreNoneIs x, String text) {
        for (int i = 0; i < text.length(); i += 4) {
            int v = 0;
            for (int j = i; j < i + 4; j++) {
                v = v << 8 | (j < text.length() ? text.charAt(j) : 0);
            }
            x.sign(v);
        }
        x.end(text.length());
    }

    private static int told(SomeAreNoneIs x, String text) {
        write(x, text);
        return x.told();
    }

    private static int plead(SomeAreNoneIs x, String text) {
        write(x, text);
        return x.plead();
    }

    /** A case of lines; what it answers is looked at where told() is tested. */
    private static SomeAreNoneIs court(String... texts) {
        SomeAreNoneIs x = new SomeAreNoneIs();
        for (String text : texts) {
            if (told(x, text) < 0) {
                due("told() of " + text, 0, -1);
            }
        }
        return x;
    }

    /** CODE of a saying such as "Aa-b". */
    private static int c(String saying) {
        int form = "AEIO".indexOf(saying.charAt(0));
        int[] terms = new int[2];
        int n = 0;
        int not = 0;
        for (int i = 1; i < saying.length(); i++) {
            if (saying.charAt(i) == '-') {
                not = 1;
            } else {
                terms[n++] = 2 * (saying.charAt(i) - 'a') + not;
                not = 0;
            }
        }
        return 576 * form + 24 * terms[0] + terms[1];
    }

    /** TERM of a letter, perhaps with - ahead of it. */
    private static int t(String term) {
        return term.charAt(0) == '-' ? 2 * (term.charAt(1) - 'a') + 1 : 2 * (term.charAt(0) - 'a');
    }

    private static int terms(String... some) {
        int bits = 0;
        for (String term : some) {
            bits |= 1 << t(term);
        }
        return bits;
    }

    private static void newObject() {
        SomeAreNoneIs x = new SomeAreNoneIs();
        int[] counts = {0, 0, 0, ALL_MOODS, 0, 0, 0, 0};
        for (int what = 0; what < counts.length; what++) {
            due("count(" + what + ") of a new object", counts[what], x.count(what));
        }
        due("holds() of a new object", 1, x.holds());
        dueNoSaying(x, 0, 0);
        dueNoRow("a new object", x, 0);
        SomeAreNoneIs y = new SomeAreNoneIs();
        told(x, "Aab@0");
        x.lives(0, true);
        due("count(0) of another object", 0, y.count(0));
        due("count(2) of another object", 0, y.count(2));
    }

    private static void sign() {
        SomeAreNoneIs x = new SomeAreNoneIs();
        for (int n = 4; n <= 80; n += 4) {
            due("sign(65)", n, x.sign(65));
        }
        due("sign() behind 80", -1, x.sign(65));
        due("count(7) behind it", 80, x.count(7));
        x.end(77);
        due("sign() behind 77", -1, x.sign(65));
        due("count(7) behind it", 77, x.count(7));
        x.end(76);
        due("sign() behind 76", 80, x.sign(65));
        x.end(0);
        x.sign('A' << 24 | 'a' << 16 | 'b' << 8 | '@');
        x.sign('5' << 24 | '?' << 16 | 'x' << 8 | 'y');
        x.end(6);
        due("told() of what was signed", 1, x.told());
        due("saying(0, 0)", c("Aab"), x.saying(0, 0));
        due("saying(0, 1)", 5, x.saying(0, 1));
        due("sign(-1)", 4, x.sign(-1));
        due("told() of signs 255", -1, x.told());
        // A byte above 127 is no letter with its lowest bits cut off.
        x.sign((128 + 'A') << 24 | 'a' << 16 | 'b' << 8 | '@');
        x.sign('5' << 24);
        x.end(5);
        due("told() of a sign 193", -1, x.told());
    }

    private static void end() {
        SomeAreNoneIs x = new SomeAreNoneIs();
        due("end(0) of nothing", true, x.end(0));
        due("end(1) of nothing", false, x.end(1));
        x.sign(0);
        due("end(5) of 4", false, x.end(5));
        due("end(-1)", false, x.end(-1));
        due("end(MIN)", false, x.end(Integer.MIN_VALUE));
        due("end(MAX)", false, x.end(Integer.MAX_VALUE));
        due("count(7)", 4, x.count(7));
        due("end(4) of 4", true, x.end(4));
        due("end(3) of 4", true, x.end(3));
        due("count(7)", 3, x.count(7));
        due("end(4) of 3", false, x.end(4));
        due("end(0)", true, x.end(0));
        due("count(7)", 0, x.count(7));
    }

    private static void told() {
        SomeAreNoneIs x = new SomeAreNoneIs();
        due("told() of nothing", 0, x.told());
        due("told()", 3, told(x, "Aab@0;E-c-d@7?;O-al@3"));
        due("count(0)", 3, x.count(0));
        due("count(7): the text is emptied", 0, x.count(7));
        due("saying(0, 0)", c("Aab"), x.saying(0, 0));
        due("saying(1, 0)", c("E-c-d"), x.saying(1, 0));
        due("saying(2, 0)", c("O-al"), x.saying(2, 0));
        due("saying(1, 1)", 7, x.saying(1, 1));
        due("saying(1, 2)", 1, x.saying(1, 2));
        due("saying(2, 2)", 0, x.saying(2, 2));
        due("told() of one more", 1, told(x, "Ill@4"));
        due("saying(3, 0)", c("Ill"), x.saying(3, 0));
        String[] texts = {"B", "a", ";", " Aab@0", "A", "Aa", "A-", "A--a", "Aa-", "Aa--b", "Am", "AA", "Aab", "Aab0", "Aab@",
            "Aab@8", "Aab@-", "Aab@0??", "Aab@0;", "Aab@0?;", "Aab@0;;", "Aab@0;x", "Aab@0 ;", "Aab@0A", "Aab@00", "Uab@0",
            "Aab@0;Eab@1;Iab"};
        int[] places = {0, 0, 0, 0, 1, 2, 2, 2, 3, 3, 1, 1, 3, 3, 4, 4, 4, 6, 6, 7, 6, 6, 5, 5, 5, 0, 15};
        for (int i = 0; i < texts.length; i++) {
            due("told() of " + texts[i], -1 - places[i], told(x, texts[i]));
            due("count(0) behind " + texts[i], 4, x.count(0));
            due("count(7) behind " + texts[i], 0, x.count(7));
        }
        toldAtItsEnds();
    }

    private static void toldAtItsEnds() {
        String twelve = "Aab@0;Aab@0;Aab@0;Aab@0;Aab@0;Aab@0;Aab@0;Aab@0;Aab@0;Aab@0;Aab@0;Aab@0;";
        SomeAreNoneIs x = new SomeAreNoneIs();
        due("told() of 76 signs that do not end", -77, told(x, twelve + "Aab@"));
        due("told() of 77 signs", -77, told(x, twelve + "Aab@1"));
        due("told() of 80 signs", -77, told(x, twelve + "Aab@1;Aa"));
        due("told() of 77 signs, wrong at 75", -76, told(x, twelve + "Aabx1"));
        due("told() of 77 signs, wrong at 76", -77, told(x, twelve + "Aab@x"));
        due("told() of 71 signs", 12, told(x, twelve.substring(0, 71)));
        due("told() of 72 signs, for which there is no room", -25, told(x, twelve));
        due("told() of the 17th", -25, told(x, "Aab@0;Aab@0;Aab@0;Aab@0;Aab@0"));
        due("told() of the 17th, wrong behind its FORM", -25, told(x, "Aab@0;Aab@0;Aab@0;Aab@0;Ax"));
        due("told() of the 17th, which is missing", -25, told(x, "Aab@0;Aab@0;Aab@0;Aab@0;"));
        due("told() wrong ahead of the 17th", -3, told(x, "Aax@0;Aab@0;Aab@0;Aab@0;Aab@0"));
        due("count(0)", 12, x.count(0));
        due("told() of the last four", 4, told(x, "Aab@0;Aab@0;Aab@0;Aab@0?"));
        due("count(0)", 16, x.count(0));
        due("saying(15, 2)", 1, x.saying(15, 2));
        due("told() without room", -1, told(x, "Aab@0"));
        due("told() of nothing without room", 0, told(x, ""));
        String seven = "A-a-b@0?;A-a-b@0?;A-a-b@0?;A-a-b@0?;A-a-b@0?;A-a-b@0?;A-a-b@0?;";
        due("told() of 76 signs", 9, told(new SomeAreNoneIs(), seven + "Aab@0?;Aab@0?"));
        due("told() of 76 signs and one more", -77, told(new SomeAreNoneIs(), seven + "Aab@0?;Aab@0?;"));
    }

    private static void saying() {
        SomeAreNoneIs x = court("Oa-l@6?");
        due("saying(0, 0)", 3 * 576 + 23, x.saying(0, 0));
        due("saying(0, 1)", 6, x.saying(0, 1));
        due("saying(0, 2)", 1, x.saying(0, 2));
        due("saying(0, 3)", 0, x.saying(0, 3));
        x.mark(0, 1, true);
        due("saying(0, 3)", 1, x.saying(0, 3));
        dueNoSaying(x, 1, 0);
        dueNoSaying(x, -1, 0);
        dueNoSaying(x, 16, 0);
        dueNoSaying(x, 0, 4);
        dueNoSaying(x, 0, -1);
        dueNoSaying(x, Integer.MAX_VALUE, Integer.MIN_VALUE);
    }

    private static void mark() {
        SomeAreNoneIs x = court("Aab@0;Abc@1?");
        due("mark(0, 0, true)", true, x.mark(0, 0, true));
        due("saying(0, 2)", 1, x.saying(0, 2));
        due("mark(1, 0, false)", true, x.mark(1, 0, false));
        due("saying(1, 2)", 0, x.saying(1, 2));
        due("mark(1, 1, true)", true, x.mark(1, 1, true));
        due("saying(1, 3)", 1, x.saying(1, 3));
        due("count(5)", 1, x.count(5));
        due("mark(1, 1, true) twice", true, x.mark(1, 1, true));
        due("mark(1, 1, false)", true, x.mark(1, 1, false));
        due("count(5)", 3, x.count(5));
        due("mark(2, 0, true)", false, x.mark(2, 0, true));
        due("mark(-1, 0, true)", false, x.mark(-1, 0, true));
        due("mark(0, 2, true)", false, x.mark(0, 2, true));
        due("mark(0, -1, true)", false, x.mark(0, -1, true));
        told(x, "Acd@0");
        due("a refused mark(2, ..) is not there later", 0, x.saying(2, 2));
    }

    private static void lives() {
        SomeAreNoneIs x = new SomeAreNoneIs();
        due("lives(0, true)", true, x.lives(0, true));
        due("lives(11, true)", true, x.lives(11, true));
        due("count(2)", 2049, x.count(2));
        due("lives(0, false)", true, x.lives(0, false));
        due("lives(0, false) twice", true, x.lives(0, false));
        due("count(2)", 2048, x.count(2));
        due("lives(12, true)", false, x.lives(12, true));
        due("lives(-1, true)", false, x.lives(-1, true));
        due("lives(32, true)", false, x.lives(32, true));
        due("count(2)", 2048, x.count(2));
        due("follows(some l are l)", 2, x.follows(c("Ill")));
        due("follows(some a are a)", 0, x.follows(c("Iaa")));
    }

    private static void want() {
        SomeAreNoneIs x = new SomeAreNoneIs();
        due("want(-1)", -1, x.want(-1));
        due("want(2304)", -1, x.want(2304));
        int[] codes = {0, 2303, 5, 5, 700, 1500};
        for (int i = 0; i < codes.length; i++) {
            due("want(" + codes[i] + ")", i + 1, x.want(codes[i]));
        }
        due("want(1) behind 6", -1, x.want(1));
        due("count(1)", 6, x.count(1));
    }

    private static void forget() {
        SomeAreNoneIs x = new SomeAreNoneIs();
        due("forget() of nothing", 0, x.forget());
        x.want(c("Aab"));
        x.want(c("Abc"));
        due("fewest()", -2, x.fewest());
        due("forget()", 2, x.forget());
        due("count(1)", 0, x.count(1));
        due("fewest()", 0, x.fewest());
        due("forget() again", 0, x.forget());
        due("want(3)", 1, x.want(3));
    }

    private static void sheet() {
        SomeAreNoneIs x = new SomeAreNoneIs();
        due("sheet(2, 12, -5, 2)", 9, x.sheet(2, 12, -5, 2));
        due("count(2)", 4095 - 7, x.count(2));
        due("sheet(2, 3, 0, 1)", 2, x.sheet(2, 3, 0, 1));
        due("count(2)", 6, x.count(2));
        due("sheet(0, 3, 127, 1)", 1, x.sheet(0, 3, 127, 1));
        due("count(2)", 1, x.count(2));
        due("sheet(0, 3, 256, 1)", 2, x.sheet(0, 3, 256, 1));
        due("count(2)", 6, x.count(2));
        due("sheet(1, 3, 32767, 1)", 1, x.sheet(1, 3, 32767, 1));
        due("count(2)", 1, x.count(2));
        due("sheet(1, 2, 65536, 300)", 1, x.sheet(1, 2, 65536, 300));
        due("count(2)", 2, x.count(2));
        due("sheet(2, 3, MAX, 1): f + step wraps", 1, x.sheet(2, 3, Integer.MAX_VALUE, 1));
        due("count(2)", 1, x.count(2));
        due("sheet(2, -1, 1, 1)", -2, x.sheet(2, -1, 1, 1));
        due("sheet(0, MIN, 1, 1)", -2, x.sheet(0, Integer.MIN_VALUE, 1, 1));
        due("sheet(4, 1, 1, 1)", -1, x.sheet(4, 1, 1, 1));
        due("sheet(-1, -1, 1, 1)", -1, x.sheet(-1, -1, 1, 1));
        due("sheet(2, 13, 1, 1)", -1, x.sheet(2, 13, 1, 1));
        due("sheet(3, 13, 1, 1)", -1, x.sheet(3, 13, 1, 1));
        due("count(2): nothing has changed", 1, x.count(2));
        due("sheet(3, -1, 1, 1)", -3, x.sheet(3, -1, 1, 1));
        due("count(2)", 0, x.count(2));
        x.lives(4, true);
        due("sheet(1, 0, 1, 1)", 0, x.sheet(1, 0, 1, 1));
        due("count(2)", 0, x.count(2));
    }

    /** What all calls answer of as many sayings as there may be. */
    private static void holdsOfSixteen() {
        SomeAreNoneIs x = court("Aab@0;Abc@1;Acd@2;Ade@3;Aef@4;Afg@5;Agh@6;Ahi@7;Aij@0;Ajk@1;Akl@2", "Iaa@3;Oal@4?;Ela@5;Ibl@6;Aal@7");
        due("count(5) of 16", 65535, x.count(5));
        due("holds() of 16", 0, x.holds());
        due("clash() of 16", 2, x.clash());
        dueRow("clash() of 16: Oal, and Iaa, which is less than Ela", x, 1 << 12 | 1 << 11);
        due("from(all of 16)", 1, x.from(65535, c("All")));
        due("from(65536)", -1, x.from(65536, c("All")));
        x.mark(12, 1, true);
        x.mark(13, 1, true);
        due("holds() of 14", 1, x.holds());
        due("chain(a, l)", 1, x.chain(t("a"), t("l")));
        dueRow("chain(a, l)", x, 15);
        x.mark(15, 1, true);
        due("chain(a, l) of 11", 11, x.chain(t("a"), t("l")));
        dueRow("chain(a, l)", x, 0, 1, 2, 3, 4, 5, 6, 7, 8, 9, 10);
        due("needs(Aal)", 2047, x.needs(c("Aal")));
        due("proof(Aal)", 10, x.proof(c("Aal")));
        due("rests(Aal)", 2047, x.rests(c("Aal")));
        due("sorts()", 13, x.sorts());
        due("town()", 1, x.town());
        dueRow("town()", x, 4095);
        due("judge(town)", 1, x.judge(4095, 4096, 4096));
        due("idle()", 1 << 14, x.idle());
        due("liars()", 0, x.liars());
    }

    private static void holds() {
        holdsOfSixteen();
        SomeAreNoneIs x = court("Aab@0;Eab@1");
        due("holds(): nobody need be a", 1, x.holds());
        x.lives(0, true);
        due("holds(): a lives", 0, x.holds());
        x.mark(1, 1, true);
        due("holds(): E is withdrawn", 1, x.holds());
        SomeAreNoneIs y = court("Aa-a@0;A-aa@0");
        due("holds(): a town of nobody", 1, y.holds());
        told(y, "Icc@0");
        due("holds(): somebody has to be", 0, y.holds());
    }

    private static void follows() {
        SomeAreNoneIs x = court("Aab@0;Abc@1?;Iad@2");
        due("follows(Aab)", 2, x.follows(c("Aab")));
        due("follows(A-b-a)", 2, x.follows(c("A-b-a")));
        due("follows(Aac)", 1, x.follows(c("Aac")));
        due("follows(Iac)", 1, x.follows(c("Iac")));
        due("follows(Ibd)", 2, x.follows(c("Ibd")));
        due("follows(Acd)", 0, x.follows(c("Acd")));
        due("follows(Aaa)", 2, x.follows(c("Aaa")));
        due("follows(Ea-a)", 2, x.follows(c("Ea-a")));
        due("follows(Iee)", 0, x.follows(c("Iee")));
        due("follows(-1)", -1, x.follows(-1));
        due("follows(2304)", -1, x.follows(2304));
        x.mark(0, 1, true);
        due("follows(Aac) without Aab", 0, x.follows(c("Aac")));
        told(x, "Ead@3?");
        due("follows(Iee) from what can't be", 1, x.follows(c("Iee")));
        due("follows(Aab) from A-b-a", 2, court("A-b-a@0").follows(c("Aab")));
        due("follows(Aac) from A-b-a and Eb-c", 2, court("A-b-a@0;Eb-c@1").follows(c("Aac")));
    }

    private static void decided() {
        SomeAreNoneIs x = court("Aab@0;Oac@1");
        due("decided(Aab)", 1, x.decided(c("Aab")));
        due("decided(Oab)", 2, x.decided(c("Oab")));
        due("decided(Aac)", 2, x.decided(c("Aac")));
        due("decided(Eab): some a are", 2, x.decided(c("Eab")));
        due("decided(Abc)", 2, x.decided(c("Abc")));
        due("decided(Acd)", 0, x.decided(c("Acd")));
        due("decided(-1)", -1, x.decided(-1));
        due("decided(2304)", -1, x.decided(2304));
        told(x, "Eab@2");
        due("decided(Acd) if no town holds", 3, x.decided(c("Acd")));
    }

    private static void from() {
        SomeAreNoneIs x = court("Aab@0;Abc@1?;Acd@2");
        due("from(3, Aac)", 1, x.from(3, c("Aac")));
        due("from(1, Aac)", 0, x.from(1, c("Aac")));
        due("from(7, Aad)", 1, x.from(7, c("Aad")));
        due("from(0, Aaa)", 1, x.from(0, c("Aaa")));
        x.mark(1, 1, true);
        due("from(3, Aac): one is withdrawn", 1, x.from(3, c("Aac")));
        due("from(8, Aaa)", -1, x.from(8, c("Aaa")));
        due("from(-1, Aaa)", -1, x.from(-1, c("Aaa")));
        due("from(0, -1)", -1, x.from(0, -1));
        due("from(0, 2304)", -1, x.from(0, 2304));
        x.lives(0, true);
        due("from(1, Iab): a lives", 1, x.from(1, c("Iab")));
    }

    private static void needs() {
        SomeAreNoneIs x = court("Aab@0;Abc@1;Aad@2;Adc@3;Ace@4;Eff@5");
        due("needs(Aac)", 0, x.needs(c("Aac")));
        due("needs(Aae)", 16, x.needs(c("Aae")));
        due("needs(Aff)", 0, x.needs(c("Aff")));
        due("needs(Afg)", 32, x.needs(c("Afg")));
        x.mark(2, 1, true);
        due("needs(Aae) without Aad", 19, x.needs(c("Aae")));
        due("needs(Aea)", -2, x.needs(c("Aea")));
        due("needs(-1)", -1, x.needs(-1));
        due("needs(2304)", -1, x.needs(2304));
    }

    private static void fewest() {
        SomeAreNoneIs x = court("Aab@0;Abc@1;Aad@2;Adc@3;Aac@4;Acf@5");
        due("fewest() of nothing", 0, x.fewest());
        dueRow("fewest()", x, 0);
        x.want(c("Aac"));
        due("fewest()", 1, x.fewest());
        dueRow("fewest()", x, 16);
        x.mark(4, 1, true);
        due("fewest() without Aac", 2, x.fewest());
        dueRow("fewest()", x, 3);
        x.want(c("Adc"));
        due("fewest() with Adc", 2, x.fewest());
        dueRow("fewest()", x, 12);
        x.want(c("Aaf"));
        due("fewest() with Aaf", 3, x.fewest());
        dueRow("fewest()", x, 44);
        x.want(c("Afa"));
        due("fewest() with Afa", -2, x.fewest());
        dueRow("fewest() of -2", x, 44);
        // Ida and Ebb make it 20; Ebc and Ibc can't both be, so that all follows, and are less.
        SomeAreNoneIs y = court("A-cc@0;Ebc@7;Ida@7?;Ibc@1;Ebb@3");
        y.want(c("Odb"));
        due("fewest(): those met later are less", 2, y.fewest());
        dueRow("fewest()", y, 10);
    }

    private static void idle() {
        SomeAreNoneIs x = court("Aab@0;Abc@1;Aac@2;Aac@3;Add@4;Ief@5;Ife@6");
        due("idle()", 4 + 8 + 16 + 32 + 64, x.idle());
        x.mark(3, 1, true);
        x.mark(6, 1, true);
        due("idle() without two", 4 + 16, x.idle());
        x.mark(1, 1, true);
        due("idle() without Abc", 16, x.idle());
        due("idle() of nothing", 0, new SomeAreNoneIs().idle());
        due("idle(): the first one", 1, court("Aac@0;Aab@0;Abc@0").idle());
    }

    private static void alike() {
        SomeAreNoneIs x = court("Aab@0");
        due("alike(Eab, Eba)", 1, x.alike(c("Eab"), c("Eba")));
        due("alike(Aab, Ea-b)", 1, x.alike(c("Aab"), c("Ea-b")));
        due("alike(Aab, A-b-a)", 1, x.alike(c("Aab"), c("A-b-a")));
        due("alike(Aab, Aba): what is told does not count", 0, x.alike(c("Aab"), c("Aba")));
        due("alike(Iab, Iaa)", 2, x.alike(c("Iab"), c("Iaa")));
        due("alike(Iaa, Iab)", 3, x.alike(c("Iaa"), c("Iab")));
        due("alike(Aab, Iab)", 0, x.alike(c("Aab"), c("Iab")));
        x.lives(0, true);
        due("alike(Aab, Iab): a lives", 2, x.alike(c("Aab"), c("Iab")));
        due("follows(Aab) behind it", 2, x.follows(c("Aab")));
        due("alike(-1, 0)", -1, x.alike(-1, 0));
        due("alike(0, -1)", -1, x.alike(0, -1));
        due("alike(0, 2304)", -1, x.alike(0, 2304));
    }

    private static void clash() {
        SomeAreNoneIs x = court("Aab@0;Abc@1;Oac@2");
        due("clash()", 1, x.clash());
        dueRow("clash()", x, 1);
        x.mark(2, 0, true);
        due("clash(): one is doubted", 1, x.clash());
        dueRow("clash()", x, 4);
        x.mark(1, 0, true);
        due("clash(): two are doubted", 1, x.clash());
        dueRow("clash()", x, 2);
        x.mark(0, 1, true);
        due("clash(): one is withdrawn", 0, x.clash());
        dueRow("clash()", x, 0);
        x.mark(0, 1, false);
        told(x, "Ide@4;Ede@5");
        due("clash() of two", 2, x.clash());
        dueRow("clash()", x, 2 + 8);
        SomeAreNoneIs y = court("Aa-a@0;Iab@1?;Iac@2?");
        due("clash(): fewer, though not doubted", 1, y.clash());
        dueRow("clash()", y, 1);
        y.lives(0, true);
        due("clash(): a lives", 1, y.clash());
        dueRow("clash()", y, 1);
        SomeAreNoneIs z = court("Aaa@5;Oaa@7;A-ba@7?;Eab@0;Iba@6?;Oba@6?");
        due("clash(): Oaa, and Iba before Eab, which is not doubted", 2, z.clash());
        dueRow("clash()", z, 2 + 16);
        z.mark(3, 0, true);
        due("clash(): Oaa, and Eab, which is less", 2, z.clash());
        dueRow("clash()", z, 2 + 8);
    }

    private static void liars() {
        SomeAreNoneIs x = court("Aab@1;Abc@2;Oac@3;Iad@3;Ead@2");
        due("liars()", 1, x.liars());
        dueRow("liars()", x, 4);
        x.mark(4, 1, true);
        due("liars() without Ead", 1, x.liars());
        dueRow("liars()", x, 2);
        x.mark(2, 1, true);
        due("liars() without Oac", 0, x.liars());
        dueRow("liars()", x, 0);
        SomeAreNoneIs y = court("Iab@0;Eab@1;Icd@2;Ecd@7");
        due("liars() of two", 2, y.liars());
        dueRow("liars()", y, 5);
        // 5 says that nobody is b; of 0 and 4 one has to go as well.
        SomeAreNoneIs z = court("Icb@1?;Obc@0?;E-cb@4?;Oa-b@4?;Ab-b@5?;Ec-c@0");
        due("liars(): those met later are less", 2, z.liars());
        dueRow("liars()", z, 1 + 32);
    }

    private static void truth() {
        SomeAreNoneIs x = court("Aab@0;Abc@1;Aac@2;Aab@2?;Oac@2;Aca@2");
        due("truth(2)", 2, x.truth(2));
        dueRow("truth(2)", x, 1);
        due("truth(5)", 0, x.truth(5));
        dueRow("truth(5)", x, 0);
        x.mark(3, 1, true);
        due("truth(2) without Aab", 1, x.truth(2));
        dueRow("truth(2)", x, 1);
        x.mark(1, 1, true);
        due("truth(2) without Abc", 0, x.truth(2));
        dueRow("truth(2)", x, 0);
        due("truth(0): those of 2 can't be, so all follows", 1, x.truth(0));
        dueRow("truth(0)", x, 1);
        due("truth(8)", -1, x.truth(8));
        due("truth(-1)", -1, x.truth(-1));
        dueRow("truth(-1)", x, 1);
    }

    private static void trusts() {
        SomeAreNoneIs x = court("Aab@0;Abc@7;Aac@3");
        due("trusts(0 and 7, Aac)", 1, x.trusts(129, c("Aac")));
        due("trusts(0, Aac)", 0, x.trusts(1, c("Aac")));
        due("trusts(3, Aac)", 1, x.trusts(8, c("Aac")));
        x.mark(2, 1, true);
        due("trusts(3, Aac) withdrawn", 0, x.trusts(8, c("Aac")));
        due("trusts(all, Aac)", 1, x.trusts(255, c("Aac")));
        due("trusts(nobody, Aaa)", 1, x.trusts(0, c("Aaa")));
        due("trusts(256, Aaa)", -1, x.trusts(256, c("Aaa")));
        due("trusts(-1, Aaa)", -1, x.trusts(-1, c("Aaa")));
        due("trusts(0, -1)", -1, x.trusts(0, -1));
        due("trusts(0, 2304)", -1, x.trusts(0, 2304));
    }

    private static void convicts() {
        SomeAreNoneIs x = court("Aab@0;Abc@7;Aac@3;Aab@2;Abc@4");
        due("convicts(Aac)", 1, x.convicts(c("Aac")));
        dueRow("convicts(Aac)", x, 8);
        x.mark(2, 1, true);
        due("convicts(Aac) without 3", 2, x.convicts(c("Aac")));
        dueRow("convicts(Aac)", x, 1 + 16);
        due("convicts(Aaa)", 0, x.convicts(c("Aaa")));
        dueRow("convicts(Aaa)", x, 0);
        x.convicts(c("Abc"));
        dueRow("convicts(Abc)", x, 16);
        due("convicts(Aca)", -2, x.convicts(c("Aca")));
        due("convicts(-1)", -1, x.convicts(-1));
        due("convicts(2304)", -1, x.convicts(2304));
        dueRow("convicts() refused", x, 16);
        // 3 and 5 can't both be right; 1 and 4 are less.
        SomeAreNoneIs y = court("Aab@0?;Aac@5;Eba@1?;Oac@3;Icb@4");
        due("convicts(Oca)", 2, y.convicts(c("Oca")));
        dueRow("convicts(Oca): those met later are less", y, 2 + 16);
    }

    private static void all() {
        SomeAreNoneIs x = court("Aab@0;Ebc@1;Iaa@2");
        due("all(a)", terms("a", "b", "-c"), x.all(t("a")));
        due("all(c)", terms("c", "-b", "-a"), x.all(t("c")));
        due("all(-a)", terms("-a"), x.all(t("-a")));
        told(x, "Add@0;Ed-d@0;Ae-e@0");
        due("all(e): nobody can be e", (1 << 24) - 1, x.all(t("e")));
        due("all(-a): nobody is e", terms("-a", "-e"), x.all(t("-a")));
        told(x, "A-ee@0");
        due("all(-a): there can be nobody", (1 << 24) - 1, x.all(t("-a")));
        x.mark(5, 1, true);
        due("all(-a) without Ae-e", terms("-a", "e"), x.all(t("-a")));
        due("all(24)", -1, x.all(24));
        due("all(-1)", -1, x.all(-1));
    }

    private static void empty() {
        SomeAreNoneIs x = court("Aab@0;Eab@1;Iaa@3");
        due("empty()", terms("a"), x.empty());
        told(x, "Aca@0;A-dd@0");
        due("empty()", terms("a", "c", "-d"), x.empty());
        x.lives(0, true);
        due("empty(): living does not count", terms("a", "c", "-d"), x.empty());
        x.mark(1, 1, true);
        due("empty() without Eab", terms("-d"), x.empty());
        told(x, "Ad-d@0");
        due("empty(): nobody at all", (1 << 24) - 1, x.empty());
        due("empty() of nothing", 0, new SomeAreNoneIs().empty());
        due("empty(): all are d, so all are e", terms("-d", "-e"), court("A-dd@0;Ade@0").empty());
        due("empty() the other way", terms("d", "e"), court("Aed@0;Ad-d@0").empty());
    }

    private static void chain() {
        SomeAreNoneIs x = court("Aab@0;Ecb@1;A-cd@2;Aad@3;Aab@4;Iad@5");
        due("chain(a, a)", 0, x.chain(t("a"), t("a")));
        dueRow("chain(a, a)", x);
        due("chain(a, d)", 1, x.chain(t("a"), t("d")));
        dueRow("chain(a, d)", x, 3);
        due("chain(a, -c)", 2, x.chain(t("a"), t("-c")));
        dueRow("chain(a, -c)", x, 0, 1);
        due("chain(c, -a)", 2, x.chain(t("c"), t("-a")));
        dueRow("chain(c, -a)", x, 1, 0);
        x.mark(3, 1, true);
        due("chain(a, d) without Aad", 3, x.chain(t("a"), t("d")));
        dueRow("chain(a, d)", x, 0, 1, 2);
        x.mark(0, 1, true);
        due("chain(-d, -a)", 3, x.chain(t("-d"), t("-a")));
        dueRow("chain(-d, -a)", x, 2, 1, 4);
        due("chain(d, a)", -2, x.chain(t("d"), t("a")));
        due("chain(24, 0)", -1, x.chain(24, 0));
        due("chain(0, -1)", -1, x.chain(0, -1));
        dueRow("chain() refused", x, 2, 1, 4);
        SomeAreNoneIs y = court("Abc@0;Aac@0;Adb@0;Ada@0;Aae@0");
        due("chain(d, c): the least row", 2, y.chain(t("d"), t("c")));
        dueRow("chain(d, c)", y, 2, 0);
        SomeAreNoneIs w = court("Aab@0;Abe@0;Abc@0;Aec@0");
        due("chain(a, c): b and e are as near", 2, w.chain(t("a"), t("c")));
        dueRow("chain(a, c)", w, 0, 2);
        SomeAreNoneIs z = court("Aa-a@0;Ab-b@0;Aab@0");
        due("chain(a, -b): all that nobody is", 2, z.chain(t("a"), t("-b")));
        dueRow("chain(a, -b)", z, 2, 1);
        due("chain(a, c): all a are c, but by no row", -2, z.chain(t("a"), t("c")));
    }

    private static void sorts() {
        SomeAreNoneIs x = new SomeAreNoneIs();
        due("sorts() of nothing", 4096, x.sorts());
        told(x, "Aab@0;Iab@0");
        due("sorts()", 3072, x.sorts());
        x.lives(0, true);
        due("sorts(): living does not count", 3072, x.sorts());
        told(x, "Eab@0");
        due("sorts() with Eab", 2048, x.sorts());
        told(x, "Akl@0");
        due("sorts() with Akl", 1536, x.sorts());
        x.mark(2, 1, true);
        due("sorts() without Eab", 2304, x.sorts());
        told(x, "Ac-c@0;A-cc@0");
        due("sorts(): nobody", 0, x.sorts());
        due("sorts(): all are d, so all are e", 1024, court("A-dd@0;Ade@0").sorts());
    }

    private static void sort() {
        SomeAreNoneIs x = court("Aab@0");
        due("sort(0)", 0, x.sort(0));
        due("sort(1)", 2, x.sort(1));
        due("sort(2)", 3, x.sort(2));
        due("sort(3)", 4, x.sort(3));
        due("sort(3071)", 4095, x.sort(3071));
        due("sort(3072)", -2, x.sort(3072));
        due("sort(MAX)", -2, x.sort(Integer.MAX_VALUE));
        due("sort(-1)", -1, x.sort(-1));
        told(x, "A-ll@0;A-kk@0;A-gg@0");
        due("sort(0) of g, k and l", 64 + 1024 + 2048, x.sort(0));
        due("sort(383)", 4095, x.sort(383));
        due("sort(384)", -2, x.sort(384));
    }

    private static void both() {
        SomeAreNoneIs x = court("Aab@0");
        due("both(a, b)", 1024, x.both(t("a"), t("b")));
        due("both(a, -b)", 0, x.both(t("a"), t("-b")));
        due("both(-a, l)", 1024, x.both(t("-a"), t("l")));
        due("both(b, b)", 2048, x.both(t("b"), t("b")));
        due("both(-b, -b)", 1024, x.both(t("-b"), t("-b")));
        due("both(c, -c)", 0, x.both(t("c"), t("-c")));
        due("both(-g, -l)", 768, x.both(t("-g"), t("-l")));
        due("both(24, 0)", -1, x.both(24, 0));
        due("both(0, -1)", -1, x.both(0, -1));
    }

    private static void town() {
        SomeAreNoneIs x = court("Aab@0;Iac@1;O-ab@2");
        due("town()", 2, x.town());
        dueRow("town()", x, 0, 7);
        x.mark(2, 1, true);
        due("town() without O", 1, x.town());
        dueRow("town()", x, 7);
        x.lives(3, true);
        due("town() with d", 1, x.town());
        dueRow("town()", x, 15);
        told(x, "Eda@0");
        due("town() with d, which is no a", 2, x.town());
        dueRow("town()", x, 7, 8);
        told(x, "Ead@0;Iad@0");
        due("town(): none", -2, x.town());
        dueRow("town() of -2", x, 7, 8);
        SomeAreNoneIs y = court("Aaa@0");
        y.judge(0, 0, 0);
        due("town() of nobody", 0, y.town());
        dueRow("town()", y);
        y.sheet(2, 12, 1, 0);
        due("town() of 12", 1, y.town());
        dueRow("town()", y, 4095);
        told(y, "Iaa@0");
        due("town() of 13", -3, y.town());
        dueRow("town() of -3", y, 4095);
        y.mark(1, 1, true);
        due("town() of 12 again", 1, y.town());
        told(y, "Iaa@0;Eaa@0");
        due("town(): none is asked first", -2, y.town());
        townOfThree();
    }

    private static void townOfThree() {
        SomeAreNoneIs x = court("Iab@0;Icd@0;Ief@0;Igh@0;Eac@0;Eae@0;Ece@0", "Egc@0");
        due("town() of three", 3, x.town());
        // gh may go with ab or with ef; with ef the row begins with the smaller ab.
        dueRow("town() of three", x, 3, 12, 48 + 192);
        SomeAreNoneIs y = court("Ia-a@0");
        due("town() of who is what he is not", -2, y.town());
        SomeAreNoneIs z = court("Ebc@0");
        z.sheet(2, 3, 1, 0);
        due("town(): a goes with c", 2, z.town());
        dueRow("town()", z, 2, 5);
        SomeAreNoneIs ring = court("Eab@0;Ebc@0;Ecd@0;Ede@0;Eea@0");
        ring.sheet(2, 5, 1, 0);
        due("town() of a ring of five", 3, ring.town());
        dueRow("town(): a; b, d; c, e", ring, 1, 10, 20);
        // Of the ring without e: a goes with c, b with d; the least is a with c.
        ring.lives(4, false);
        due("town() of four of the ring", 2, ring.town());
        dueRow("town(): a, c; b, d", ring, 5, 10);
    }

    private static void refute() {
        SomeAreNoneIs x = court("Aab@0;Iac@0");
        due("refute(Abc)", 2, x.refute(c("Abc")));
        dueRow("refute(Abc)", x, 2, 7);
        due("refute(Iad)", 1, x.refute(c("Iad")));
        dueRow("refute(Iad)", x, 7);
        due("refute(Oad)", 1, x.refute(c("Oad")));
        dueRow("refute(Oad)", x, 15);
        due("refute(Iab): it follows", -2, x.refute(c("Iab")));
        due("refute(-1)", -1, x.refute(-1));
        due("refute(2304)", -1, x.refute(2304));
        dueRow("refute() refused", x, 15);
        due("town() behind it", 1, x.town());
        dueRow("town() behind it", x, 7);
        x.sheet(2, 11, 1, 0);
        due("refute(Abc) of 13", -3, x.refute(c("Abc")));
        due("refute(Iab) of 12: it follows", -2, x.refute(c("Iab")));
        due("refute(Ial) of 12: the contrary is E", 1, x.refute(c("Ial")));
        dueRow("refute(Ial)", x, 2047);
        due("refute(Aab) of 13: it follows", -2, x.refute(c("Aab")));
        SomeAreNoneIs y = court("Icc@0;Ecc@1");
        due("refute(Aab): no town holds", -2, y.refute(c("Aab")));
    }

    private static void judge() {
        SomeAreNoneIs x = court("Aab@0;Eac@0;Iad@0;Oab@0");
        x.mark(3, 1, true);
        due("judge(a b d)", 1, x.judge(11, 4096, 4096));
        dueRow("judge(a b d)", x, 0, 0);
        due("judge(nobody)", 0, x.judge(4096, 4096, 4096));
        dueRow("judge(nobody)", x, 4, 0);
        due("judge(a; a b d)", 0, x.judge(11, 1, 4096));
        dueRow("judge(a; a b d)", x, 1, 0);
        due("judge(nobody, nobody, a c)", 0, x.judge(4096, 4096, 5));
        dueRow("judge(a c)", x, 7, 0);
        x.sheet(2, 12, 1, 0);
        due("judge(a b d; c; f)", 0, x.judge(11, 4, 32));
        dueRow("judge(a b d; c; f)", x, 0, 4095 - 11 - 4 - 32);
        due("judge(4097, 0, 0)", -1, x.judge(4097, 0, 0));
        due("judge(-1, 0, 0)", -1, x.judge(-1, 0, 0));
        due("judge(0, -1, 0)", -1, x.judge(0, -1, 0));
        due("judge(0, 4097, 0)", -1, x.judge(0, 4097, 0));
        due("judge(0, 0, -1)", -1, x.judge(0, 0, -1));
        due("judge(0, 0, 4097)", -1, x.judge(0, 0, 4097));
        dueRow("judge() refused", x, 0, 4095 - 11 - 4 - 32);
        SomeAreNoneIs y = court("I-a-b@0;A-ab@0");
        y.lives(0, true);
        due("judge(nobody): nobody is no -a either", 0, y.judge(4096, 4096, 4096));
        dueRow("judge(nobody)", y, 1, 1);
        due("judge(who is nothing)", 0, y.judge(4096, 0, 4096));
        dueRow("judge(who is nothing)", y, 2, 1);
    }

    private static void mood() {
        SomeAreNoneIs x = court("Aab@0");
        int[][] always = {{0, 0, 0, 1}, {1, 0, 1, 1}, {0, 2, 2, 1}, {1, 2, 3, 1}, {1, 0, 1, 2}, {0, 1, 1, 2}, {1, 2, 3, 2},
            {0, 3, 3, 2}, {2, 0, 2, 3}, {0, 2, 2, 3}, {3, 0, 3, 3}, {1, 2, 3, 3}, {0, 1, 1, 4}, {2, 0, 2, 4}, {1, 2, 3, 4}};
        for (int[] m : always) {
            due("mood(" + m[0] + ", " + m[1] + ", " + m[2] + ", " + m[3] + ")", 2, x.mood(m[0], m[1], m[2], m[3]));
            dueRow("mood() of 2", x);
        }
        // Barbari, Celaront; Cesaro, Camestros; Darapti, Felapton; Fesapo, Bamalip, Calemos.
        int[][] sometimes = {{0, 0, 2, 1, 1}, {1, 0, 3, 1, 1}, {1, 0, 3, 2, 1}, {0, 1, 3, 2, 1}, {0, 0, 2, 3, 2},
            {1, 0, 3, 3, 2}, {1, 0, 3, 4, 2}, {0, 0, 2, 4, 4}, {0, 1, 3, 4, 1}};
        for (int[] m : sometimes) {
            due("mood(" + m[0] + ", " + m[1] + ", " + m[2] + ", " + m[3] + ")", 1, x.mood(m[0], m[1], m[2], m[3]));
            dueRow("mood() of 1", x, m[4]);
        }
        int[][] never = {{2, 2, 2, 1, 1}, {0, 0, 0, 2, 1}, {0, 1, 1, 1, 2}, {2, 0, 3, 3, 2}, {0, 0, 0, 3, 3}, {0, 0, 0, 4, 3},
            {1, 1, 1, 1, 4}, {3, 1, 3, 3, 4}, {0, 1, 2, 2, 5}, {1, 0, 2, 1, 5}, {0, 0, 3, 4, 5}, {0, 2, 3, 3, 2}};
        for (int[] m : never) {
            due("mood(" + m[0] + ", " + m[1] + ", " + m[2] + ", " + m[3] + ")", 0, x.mood(m[0], m[1], m[2], m[3]));
            dueRow("mood(" + m[0] + ", " + m[1] + ", " + m[2] + ", " + m[3] + ")", x, m[4]);
        }
        due("mood(4, 0, 0, 1)", -1, x.mood(4, 0, 0, 1));
        due("mood(0, -1, 0, 1)", -1, x.mood(0, -1, 0, 1));
        due("mood(0, 0, 4, 1)", -1, x.mood(0, 0, 4, 1));
        due("mood(0, 0, 0, 0)", -1, x.mood(0, 0, 0, 0));
        due("mood(0, 0, 0, 5)", -1, x.mood(0, 0, 0, 5));
        dueRow("mood() refused", x, 2);
        x.lives(0, true);
        due("mood(AAI, 1): who lives in the case does not count", 1, x.mood(0, 0, 2, 1));
    }

    private static void figure() {
        SomeAreNoneIs x = new SomeAreNoneIs();
        int[] always = {4, 4, 4, 3};
        int[] sometimes = {2, 2, 2, 3};
        for (int figure = 1; figure <= 4; figure++) {
            due("figure(" + figure + ")", always[figure - 1], x.figure(figure));
            dueRow("figure(" + figure + ")", x, sometimes[figure - 1]);
        }
        due("figure(0)", -1, x.figure(0));
        due("figure(5)", -1, x.figure(5));
        dueRow("figure() refused", x, 3);
    }

    private static void forms() {
        SomeAreNoneIs x = court("Aab@0;Iac@0;Ead@0");
        due("forms(a, b)", 1 + 4, x.forms(t("a"), t("b")));
        dueRow("forms(a, b)", x, 512, 0);
        due("forms(a, d)", 2 + 8, x.forms(t("a"), t("d")));
        dueRow("forms(a, d)", x, 0, 512);
        due("forms(e, f)", 0, x.forms(t("e"), t("f")));
        dueRow("forms(e, f)", x, 640, 640);
        due("forms(e, e)", 1, x.forms(t("e"), t("e")));
        dueRow("forms(e, e)", x, 1280, 0);
        due("forms(24, 0)", -1, x.forms(24, 0));
        due("forms(0, -1)", -1, x.forms(0, -1));
        dueRow("forms() refused", x, 1280, 0);
        told(x, "Eac@0");
        due("forms(e, f): no town holds", 15, x.forms(t("e"), t("f")));
    }

    private static void allow() {
        SomeAreNoneIs x = new SomeAreNoneIs();
        due("allow(5)", ALL_MOODS, x.allow(5));
        due("count(3)", 5, x.count(3));
        due("allow(0)", 5, x.allow(0));
        due("allow(-1)", -1, x.allow(-1));
        due("allow(4194304)", -1, x.allow(4194304));
        due("count(3)", 0, x.count(3));
        due("allow(4194303)", 0, x.allow(4194303));
        due("count(3)", ALL_MOODS, x.count(3));
    }

    /** Premises and conclusion of the moods 0 .. 18: s is a, m is b, p is c. */
    private static final String[][] MOODS = {{"Abc", "Aab", "Aac"}, {"Ebc", "Aab", "Eac"}, {"Abc", "Iab", "Iac"},
        {"Ebc", "Iab", "Oac"}, {"Ecb", "Aab", "Eac"}, {"Acb", "Eab", "Eac"}, {"Ecb", "Iab", "Oac"}, {"Acb", "Oab", "Oac"},
        {"Ibc", "Aba", "Iac"}, {"Abc", "Iba", "Iac"}, {"Obc", "Aba", "Oac"}, {"Ebc", "Iba", "Oac"},
        {"Acb", "Eba", "Eac"}, {"Icb", "Aba", "Iac"}, {"Ecb", "Iba", "Oac"},
        {"Abc", "Aba", "Iac"}, {"Ebc", "Aba", "Oac"}, {"Ecb", "Aba", "Oac"}, {"Acb", "Aba", "Iac"}};

    private static void step() {
        SomeAreNoneIs x = new SomeAreNoneIs();
        for (int mood = 0; mood < MOODS.length; mood++) {
            String[] m = MOODS[mood];
            due("step(" + mood + ", " + m[0] + ", " + m[1] + ")", mood < 15 ? c(m[2]) : -2, x.step(mood, c(m[0]), c(m[1])));
        }
        x.allow(0);
        x.sheet(2, 3, 1, 0);
        for (int mood = 15; mood < MOODS.length; mood++) {
            String[] m = MOODS[mood];
            due("step(" + mood + "): a, b, c live", c(m[2]), x.step(mood, c(m[0]), c(m[1])));
            int need = mood == 18 ? 2 : 1;
            x.lives(need, false);
            due("step(" + mood + "): one does not", -2, x.step(mood, c(m[0]), c(m[1])));
            x.sheet(2, 3, 0, 0);
            x.lives(need, true);
            due("step(" + mood + "): one alone does", c(m[2]), x.step(mood, c(m[0]), c(m[1])));
            x.sheet(2, 3, 1, 0);
        }
        due("step(15): what is not of a kind is no kind", -2, x.step(15, c("A-bc"), c("A-ba")));
        due("step(0, Aab, Abc): in the other order", -2, x.step(0, c("Aab"), c("Abc")));
        due("step(0, Abc, Eab): another form", -2, x.step(0, c("Abc"), c("Eab")));
        due("step(0, Abc, A-a-b): b is not -b", -2, x.step(0, c("Abc"), c("A-a-b")));
        stepOfOne(x);
    }

    private static void stepOfOne(SomeAreNoneIs x) {
        due("step(19, Eab)", c("Eba"), x.step(19, c("Eab"), -1));
        due("step(19, I-ab)", c("Ib-a"), x.step(19, c("I-ab"), -1));
        due("step(19, Aab)", -2, x.step(19, c("Aab"), -1));
        due("step(19, Oab)", -2, x.step(19, c("Oab"), -1));
        due("step(20, Aab)", c("Ea-b"), x.step(20, c("Aab"), -1));
        due("step(20, Ea-b)", c("Aab"), x.step(20, c("Ea-b"), -1));
        due("step(20, Iab)", c("Oa-b"), x.step(20, c("Iab"), -1));
        due("step(20, O-a-b)", c("I-ab"), x.step(20, c("O-a-b"), -1));
        due("step(21, Aab)", c("Iab"), x.step(21, c("Aab"), -1));
        due("step(21, Eab)", c("Oab"), x.step(21, c("Eab"), -1));
        due("step(21, Iab)", -2, x.step(21, c("Iab"), -1));
        due("step(21, A-ab)", -2, x.step(21, c("A-ab"), -1));
        x.lives(0, false);
        due("step(21, Aab): a does not live", -2, x.step(21, c("Aab"), -1));
        due("step(-1, 0, 0)", -1, x.step(-1, 0, 0));
        due("step(22, 0, -1)", -1, x.step(22, 0, -1));
        due("step(0, -1, 0)", -1, x.step(0, -1, 0));
        due("step(0, 0, -1)", -1, x.step(0, 0, -1));
        due("step(0, 0, 2304)", -1, x.step(0, 0, 2304));
        due("step(19, 2304, -1)", -1, x.step(19, 2304, -1));
        due("step(19, Eab, 0)", -1, x.step(19, c("Eab"), 0));
    }

    private static void proof() {
        SomeAreNoneIs x = court("Aab@0;Abc@1;Acd@2;Eed@3");
        due("proof(Aab)", 0, x.proof(c("Aab")));
        dueRow("proof(Aab)", x, -1, -1, -1);
        due("proof(Aac)", 1, x.proof(c("Aac")));
        dueRow("proof(Aac)", x, 0, c("Abc"), c("Aab"));
        due("proof(Aad)", 2, x.proof(c("Aad")));
        dueRow("proof(Aad): the least row", x, 0, c("Abd"), c("Aab"));
        due("proof(Ede)", 1, x.proof(c("Ede")));
        dueRow("proof(Ede)", x, 19, c("Eed"), -1);
        due("proof(Eec)", 1, x.proof(c("Eec")));
        dueRow("proof(Eec)", x, 5, c("Acd"), c("Eed"));
        due("proof(Ece)", 1, x.proof(c("Ece")));
        dueRow("proof(Ece)", x, 4, c("Eed"), c("Acd"));
        due("proof(A-b-a)", 3, x.proof(c("A-b-a")));
        dueRow("proof(A-b-a)", x, 20, c("E-ba"), -1);
        due("proof(Iab)", -2, x.proof(c("Iab")));
        dueRow("proof() of -2", x, 20, c("E-ba"), -1);
        x.lives(0, true);
        due("proof(Iab): a lives", 1, x.proof(c("Iab")));
        dueRow("proof(Iab)", x, 21, c("Aab"), -1);
        x.allow(ALL_MOODS - 1);
        due("proof(Aac) without mood 0", 3, x.proof(c("Aac")));
        dueRow("proof(Aac)", x, 20, c("Ea-c"), -1);
        x.allow(0);
        due("proof(Aab) without any", 0, x.proof(c("Aab")));
        due("proof(Aac) without any", -2, x.proof(c("Aac")));
        due("proof(-1)", -1, x.proof(-1));
        due("proof(2304)", -1, x.proof(2304));
        x.allow(ALL_MOODS);
        x.mark(0, 1, true);
        due("proof(Aac) without Aab", -2, x.proof(c("Aac")));
        due("proof(Aaa): it follows, but from nothing", -2, x.proof(c("Aaa")));
        SomeAreNoneIs y = court("Ea-a@0");
        due("proof(Aaa) from Ea-a", 1, y.proof(c("Aaa")));
        dueRow("proof(Aaa)", y, 20, c("Ea-a"), -1);
        SomeAreNoneIs z = court("Aaa@0");
        due("proof(Ea-a) from Aaa", 1, z.proof(c("Ea-a")));
        dueRow("proof(Ea-a)", z, 20, c("Aaa"), -1);
        proofByEachMood();
    }

    /** "Ea-b" for "Aab", and so on: by mood 20 each is proved from the other. */
    private static String otherForm(String saying) {
        return "" + "EAOI".charAt("AEIO".indexOf(saying.charAt(0))) + saying.charAt(1) + "-" + saying.charAt(2);
    }

    /** With none, the first, the second or both of its premises proved by mood 20. */
    private static void proofByEachMood() {
        for (int mood = 0; mood < MOODS.length; mood++) {
            for (int which = 0; which < 12; which++) {
                proofByMood(mood, which & 3, MOODS[mood], new String[] {"abc", "cba", "bac"}[which / 4]);
            }
        }
    }

    private static String renamed(String saying, String names) {
        return "" + saying.charAt(0) + names.charAt(saying.charAt(1) - 'a') + names.charAt(saying.charAt(2) - 'a');
    }

    private static void proofByMood(int mood, int which, String[] letters, String names) {
        String[] m = {renamed(letters[0], names), renamed(letters[1], names), renamed(letters[2], names)};
        String first = (which & 1) == 0 ? m[0] : otherForm(m[0]);
        String second = (which & 2) == 0 ? m[1] : otherForm(m[1]);
        SomeAreNoneIs x = court(first + "@0;" + second + "@1");
        x.allow(1 << mood | 1 << 20);
        x.sheet(2, 3, 1, 0);
        String call = "proof(" + m[2] + ") by " + mood + " from " + first + " and " + second;
        due(call, 1 + Integer.bitCount(which), x.proof(c(m[2])));
        dueRow(call, x, mood, c(m[0]), c(m[1]));
        due(call + ", rests()", 3, x.rests(c(m[2])));
        dueRow(call + ", rests()", x, which == 0 ? 1 << mood : 1 << mood | 1 << 20, which == 0 ? 1 : 2);
        x.sheet(3, 0, 0, 0);
        due(call + " if none lives", mood < 15 ? 1 + Integer.bitCount(which) : -2, x.proof(c(m[2])));
        x.allow(1 << 20);
        due(call + " without " + mood, -2, x.proof(c(m[2])));
    }

    private static void rests() {
        SomeAreNoneIs x = court("Aab@0;Abc@1;Aab@2;Acd@3");
        due("rests(Aab)", 1, x.rests(c("Aab")));
        dueRow("rests(Aab)", x, 0, 0);
        due("rests(Aac)", 3, x.rests(c("Aac")));
        dueRow("rests(Aac)", x, 1, 1);
        due("rests(Aad)", 11, x.rests(c("Aad")));
        dueRow("rests(Aad)", x, 1, 2);
        due("rests(A-b-a)", 1, x.rests(c("A-b-a")));
        dueRow("rests(A-b-a)", x, 1 << 19 | 1 << 20, 3);
        x.mark(0, 1, true);
        due("rests(Aac) without the first Aab", 6, x.rests(c("Aac")));
        due("rests(Aca)", -2, x.rests(c("Aca")));
        due("rests(-1)", -1, x.rests(-1));
        due("rests(2304)", -1, x.rests(2304));
        dueRow("rests() refused", x, 1, 1);
        SomeAreNoneIs y = court("Aaa@0;Iab@0");
        due("rests(Iba) by mood 9, ahead of 19", 3, y.rests(c("Iba")));
        dueRow("rests(Iba)", y, 1 << 9, 1);
        y.allow(1 << 19 | 1 << 20);
        due("rests(Ea-a)", 1, y.rests(c("Ea-a")));
        dueRow("rests(Ea-a)", y, 1 << 20, 1);
        due("rests(Iba): what was looked at before does not count", 2, y.rests(c("Iba")));
        dueRow("rests(Iba)", y, 1 << 19, 1);
        y.mark(0, 1, true);
        y.allow(1 << 19);
        due("rests(Iba), which is proved last", 2, y.rests(c("Iba")));
    }

    private static void proved() {
        SomeAreNoneIs x = new SomeAreNoneIs();
        due("proved() of nothing", 0, x.proved());
        dueRow("proved()", x, 0);
        told(x, "Iab@0;Iab@1");
        x.allow(1 << 19);
        due("proved() by turning", 2, x.proved());
        dueRow("proved()", x, 1);
        x.allow(1 << 19 | 1 << 20);
        // Iab, Iba, Oa-b, Ob-a.
        due("proved() by turning and the other form", 4, x.proved());
        dueRow("proved()", x, 2);
        x.allow(0);
        due("proved() by nothing", 1, x.proved());
        dueRow("proved()", x, 0);
        x.mark(0, 1, true);
        x.mark(1, 1, true);
        due("proved(): all is withdrawn", 0, x.proved());
        SomeAreNoneIs y = court("Aab@0;Abc@0;Acd@0");
        y.allow(1);
        due("proved() of a chain", 6, y.proved());
        dueRow("proved()", y, 2);
        // Abc, and Aac, Adc, Aec with it; of all but Eb-c, which is told, the other forms.
        SomeAreNoneIs z = court("Aab@0;Adb@0;Aeb@0;Eb-c@0");
        z.allow(1 | 1 << 20);
        due("proved() with a premise that comes later", 14, z.proved());
        dueRow("proved()", z, 3);
        due("proof(Aac)", 2, z.proof(c("Aac")));
        due("proof(Adc)", 2, z.proof(c("Adc")));
    }

    private static void gap() {
        SomeAreNoneIs x = court("Aab@0;Abc@1");
        due("gap() of nothing", 0, x.gap());
        x.want(c("Aaa"));
        x.want(c("Aac"));
        x.want(c("Aca"));
        x.want(c("A-c-a"));
        x.want(c("Aaa"));
        due("gap()", 1 + 16, x.gap());
        x.allow(1);
        due("gap() by mood 0", 1 + 8 + 16, x.gap());
        x.allow(0);
        due("gap() by nothing", 1 + 2 + 8 + 16, x.gap());
        x.want(c("Abc"));
        due("gap(): what is told is proved", 1 + 2 + 8 + 16, x.gap());
        x.mark(0, 1, true);
        due("gap() without Aab", 1 + 16, x.gap());
    }

    private static void plead() {
        SomeAreNoneIs x = court("Aab@0;Abc@1;Ecd@2;Iae@3");
        due("plead() of nothing", 0, plead(x, ""));
        due("plead()", 1, plead(x, "0:1+0Aac"));
        due("count(7)", 0, x.count(7));
        due("plead() in the other order", 1, plead(x, "3:00+01Aac"));
        due("plead() of this text", 2, plead(x, "1:02+16Ead;2:18Eda"));
        due("count(4)", 4, x.count(4));
        String[] texts = {"4", "x", "0", "0;", "0:", "0:x", "0:1", "0:111", "0:1+", "0:1+x", "0:1+0", "0:1+000", "0:1+0+0", "0:1B",
            "0:1Aa", "0:1Aab@", "0:1Aab;", "0:1Aab;x", "0:1Aab?", "0:A", "-1:0Aab", "0:-1Aab"};
        int[] places = {0, 0, 1, 1, 2, 2, 3, 4, 4, 4, 5, 6, 5, 3, 5, 6, 7, 7, 6, 2, 0, 2};
        for (int i = 0; i < texts.length; i++) {
            due("plead() of " + texts[i], -1 - places[i], plead(x, texts[i]));
            due("count(7) behind it", 0, x.count(7));
        }
        due("plead() that is wrong behind what does not follow", -15, plead(x, "0:9+9Aab;0:1+0x"));
        due("count(4)", 4, x.count(4));
        String line = "0:1+0Aac;";
        String eight = line + line + line + line + line + line + line + line;
        due("plead() of 76 signs that do not end", -77, plead(x, eight + "0:1+"));
        due("plead() of 80 signs", -77, plead(x, eight + "0:1+0Aac"));
        due("plead() of 77 signs", -77, plead(x, eight + "0:0Aabb".substring(0, 5)));
        due("plead() of 71 signs", 8, plead(x, eight.substring(0, 71)));
        due("plead() of 8 more", 8, plead(x, eight.substring(0, 71)));
        due("count(4)", 20, x.count(4));
        due("plead() of 5 where there is room for 4", -142, plead(x, line + line + line + line + "0:1+0Aac"));
        due("plead() of 5, the last of none", -141, plead(x, line + line + line + line + "0:1+9Aac"));
        due("count(4)", 20, x.count(4));
        due("plead() of the last 4", 4, plead(x, line + line + line + "0:1+0Aac"));
        due("plead() without room", -102, plead(x, "0:1+0Aac"));
        due("plead() of a step 40", -101, plead(x, "0:40+0Aac"));
        pleadInVain();
    }

    private static void pleadInVain() {
        SomeAreNoneIs x = court("Aab@0;Abc@1;Ecd@2;Iae@3");
        due("plead() of no saying", -101, plead(x, "0:1+4Aac"));
        due("plead() of no step", -101, plead(x, "0:16Aac"));
        due("plead() of itself", -111, plead(x, "0:1+0Aac;0:17Aac"));
        due("plead() of a later step", -101, plead(x, "0:17Aac;0:1+0Aac"));
        due("plead() of 99", -101, plead(x, "0:99Aac"));
        due("plead() of other terms", -103, plead(x, "0:1+0Aad"));
        due("plead() of terms turned", -104, plead(x, "0:1+0Aca"));
        due("plead() of -c for c", -103, plead(x, "0:1+0Ea-c"));
        due("plead() of no middle", -103, plead(x, "0:0+2Aad"));
        due("plead() by no mood", -104, plead(x, "0:1+0Eac"));
        due("plead() of one, other terms", -103, plead(x, "0:0Aac"));
        due("plead() of one, -x", -103, plead(x, "0:0E-ab"));
        due("plead() of one, turned but for its second", -103, plead(x, "0:0Abc"));
        due("plead() of one, turned but for its first", -103, plead(x, "0:0Aca"));
        due("plead() of one, turned", -104, plead(x, "0:0Aba"));
        due("plead() of one, by no mood", -104, plead(x, "0:0Aa-b"));
        due("plead() of one, the same", -104, plead(x, "0:0Aab"));
        due("plead() of one that does not live", -106, plead(x, "0:0Iab"));
        due("plead() of two of which none lives", -106, plead(x, "0:0+0Ibb"));
        x.allow(0);
        due("plead() of what is not allowed", -105, plead(x, "0:1+0Aac"));
        due("plead() of one that is not allowed", -105, plead(x, "0:0Ea-b"));
        due("plead() of what is not allowed and does not live", -105, plead(x, "0:0Iab"));
        due("plead() by no mood, none is allowed", -104, plead(x, "0:1+0Eac"));
        x.allow(ALL_MOODS);
        x.lives(0, true);
        due("plead() of one that lives", 1, plead(x, "0:0Iab"));
        due("plead() that fails in line 2", -124, plead(x, "0:1+0Aac;0:2Edc;0:1+0Oac"));
        due("count(4): nothing is written down", 1, x.count(4));
        x.mark(0, 1, true);
        due("plead() of what is withdrawn", -101, plead(x, "0:1+0Aac"));
        due("plead() of a step of what is withdrawn", 1, plead(x, "0:16Iba"));
    }

    private static void pleaded() {
        SomeAreNoneIs x = court("Aab@0;Abc@1;Ecd@2");
        plead(x, "2:0+01Aac;3:2Edc");
        int[][] want = {{c("Aac"), 2, 0, 1, 0}, {c("Edc"), 3, 2, -1, 19}};
        for (int step = 0; step < 2; step++) {
            for (int what = 0; what < 5; what++) {
                due("pleaded(" + step + ", " + what + ")", want[step][what], x.pleaded(step, what));
            }
        }
        dueNoStep(x, 2, 0);
        dueNoStep(x, -1, 0);
        dueNoStep(x, 0, 5);
        dueNoStep(x, 0, -1);
        dueNoStep(x, 39, 0);
        x.allow(ALL_MOODS - (1 << 4));
        plead(x, "1:17+16Ead");
        // Edc with Aac: mood 1 wants Ecd, which is number 2; mood 4 is Edc, Aac.
        due("count(4)", 2, x.count(4));
        x.allow(ALL_MOODS);
        plead(x, "1:17+16Ead");
        due("pleaded(2, 4)", 4, x.pleaded(2, 4));
        plead(x, "1:2+16Ead");
        due("pleaded(3, 4)", 1, x.pleaded(3, 4));
        SomeAreNoneIs y = court("Aab@0;Iab@1");
        y.lives(0, true);
        plead(y, "0:0+0Ibb;0:0+1Ibb;0:1+1Ibb");
        due("count(4): two I prove nothing", 0, y.count(4));
        plead(y, "0:0+0Ibb;0:0+1Ibb");
        due("pleaded(0, 4)", 15, y.pleaded(0, 4));
        due("pleaded(1, 4): the first mood that does, in one order", 8, y.pleaded(1, 4));
    }

    private static void stands() {
        SomeAreNoneIs x = court("Aab@0;Abc@1;Acd@2");
        due("stands() of nothing", 0, x.stands());
        plead(x, "0:1+0Aac;0:2+1Abd;0:16+2Aad;0:17Eb-d;0:18Ea-d");
        due("stands()", 31, x.stands());
        x.mark(0, 1, true);
        due("stands() without Aab", 2 + 8, x.stands());
        x.mark(0, 1, false);
        x.mark(2, 1, true);
        due("stands() without Acd", 1, x.stands());
        x.mark(2, 1, false);
        x.allow(0);
        due("stands(): what is allowed now does not count", 31, x.stands());
    }

    private static void marks() {
        SomeAreNoneIs x = court("Aab@0;Abc@1;Acd@2;Aac@3");
        x.mark(3, 1, true);
        x.want(c("Aac"));
        x.want(c("Aad"));
        plead(x, "1:1+0Aac;2:2+1Abd;1:16+2Aad;1:2+1Abd;2:16+2Aad");
        due("marks(1)", 3, x.marks(1));
        dueRow("marks(1): Aac is a saying, Abd a step ahead", x, 2, 2);
        due("marks(2)", 2, x.marks(2));
        dueRow("marks(2)", x, 1, 1);
        due("marks(0)", 0, x.marks(0));
        dueRow("marks(0)", x, 0, 0);
        x.mark(0, 1, true);
        due("marks(1) without Aab", 1, x.marks(1));
        dueRow("marks(1) without Aab", x, 0, 1);
        due("marks(3)", 0, x.marks(3));
        dueRow("marks(3)", x, 0, 0);
        x.marks(1);
        due("marks(4)", -1, x.marks(4));
        due("marks(-1)", -1, x.marks(-1));
        dueRow("marks() refused", x, 0, 1);
        SomeAreNoneIs y = court("Eab@0;Aaa@0");
        y.want(c("Eba"));
        told(y, "Eba@0;x");
        plead(y, "3:0Eba;3:16Eab;3:0Eba");
        due("marks(3)", 3, y.marks(3));
        dueRow("marks(3): Eba was not told in the end, and is wanted twice; Eab is saying 0, Eba step 0", y, 2, 2);
        y.forget();
        y.marks(3);
        dueRow("marks(3): nothing is wanted any more", y, 0, 2);
    }

    private static void strike() {
        SomeAreNoneIs x = court("Aab@0;Abc@1");
        due("strike() of nothing", -1, x.strike());
        plead(x, "1:1+0Aac;2:16Ea-c");
        due("strike()", 1, x.strike());
        dueNoStep(x, 1, 0);
        due("stands()", 1, x.stands());
        due("plead() behind it", 1, plead(x, "3:0Ea-b"));
        due("pleaded(1, 1)", 3, x.pleaded(1, 1));
        due("strike()", 1, x.strike());
        due("strike()", 0, x.strike());
        due("strike()", -1, x.strike());
        due("count(4)", 0, x.count(4));
    }

    private static void keep() {
        SomeAreNoneIs x = court("Aab@0;Abc@1?");
        due("keep(-1)", false, x.keep(-1));
        due("keep(3)", false, x.keep(3));
        x.lives(2, true);
        x.allow(7);
        due("keep(0)", true, x.keep(0));
        x.mark(0, 1, true);
        x.mark(1, 0, false);
        x.lives(2, false);
        x.allow(8);
        due("keep(2)", true, x.keep(2));
        due("again(0)", true, x.again(0));
        due("saying(0, 3)", 0, x.saying(0, 3));
        due("saying(1, 2)", 1, x.saying(1, 2));
        due("count(2)", 4, x.count(2));
        due("count(3)", 7, x.count(3));
        due("again(2)", true, x.again(2));
        due("saying(0, 3)", 1, x.saying(0, 3));
        due("saying(1, 2)", 0, x.saying(1, 2));
        due("count(2)", 0, x.count(2));
        due("count(3)", 8, x.count(3));
        x.mark(0, 1, false);
        x.keep(0);
        x.again(2);
        x.again(0);
        due("saying(0, 3): kept anew", 0, x.saying(0, 3));
    }

    private static void again() {
        SomeAreNoneIs x = court("Aab@0?");
        due("again(0) of nothing kept", false, x.again(0));
        due("again(-1)", false, x.again(-1));
        due("again(3)", false, x.again(3));
        x.keep(1);
        due("again(0): 1 is kept", false, x.again(0));
        x.want(5);
        told(x, "Abc@1?;Acd@2");
        plead(x, "0:1+0Aac");
        x.mark(2, 1, true);
        x.mark(0, 0, false);
        x.mark(0, 1, true);
        due("again(1)", true, x.again(1));
        due("saying(0, 2)", 1, x.saying(0, 2));
        due("saying(0, 3)", 0, x.saying(0, 3));
        due("saying(1, 2): told since", 1, x.saying(1, 2));
        due("saying(2, 3): told since", 1, x.saying(2, 3));
        due("count(0)", 3, x.count(0));
        due("count(1): what is wanted stays", 1, x.count(1));
        due("count(4): steps stay", 1, x.count(4));
        due("again(1) twice", true, x.again(1));
        due("follows(Abc)", 1, x.follows(c("Abc")));
    }

    private static void count() {
        SomeAreNoneIs x = court("Aab@0;Abc@1;Acd@2");
        x.want(3);
        x.want(4);
        x.lives(1, true);
        x.lives(3, true);
        x.allow(1);
        plead(x, "0:1+0Aac");
        x.mark(1, 1, true);
        x.judge(0, 0, 0);
        x.sign(0);
        int[] want = {3, 2, 10, 1, 1, 5, 2, 4};
        for (int what = 0; what < want.length; what++) {
            due("count(" + what + ")", want[what], x.count(what));
        }
        due("count(8)", -1, x.count(8));
        due("count(-1)", -1, x.count(-1));
    }

    private static void row() {
        SomeAreNoneIs x = court("Aab@0;Abc@1");
        dueRow("no ROW yet", x);
        x.judge(1, 4096, 4096);
        dueRow("judge(a)", x, 1, 0);
        x.follows(0);
        x.idle();
        x.holds();
        x.sorts();
        x.gap();
        x.stands();
        dueRow("calls that tell no row", x, 1, 0);
        x.chain(0, 0);
        dueRow("an empty row", x);
        dueNoRow("an empty row", x, Integer.MAX_VALUE);
        dueNoRow("an empty row", x, Integer.MIN_VALUE);
    }

    private static void testAll() {
        Runnable[] tests = {Promises::newObject, Promises::sign, Promises::end, Promises::told, Promises::saying, Promises::mark,
            Promises::lives, Promises::want, Promises::forget, Promises::sheet, Promises::holds, Promises::follows,
            Promises::decided, Promises::from, Promises::needs, Promises::fewest, Promises::idle, Promises::alike,
            Promises::clash, Promises::liars, Promises::truth, Promises::trusts, Promises::convicts, Promises::all,
            Promises::empty, Promises::chain, Promises::sorts, Promises::sort, Promises::both, Promises::town,
            Promises::refute, Promises::judge, Promises::mood, Promises::figure, Promises::forms, Promises::allow,
            Promises::step, Promises::proof, Promises::rests, Promises::proved, Promises::gap, Promises::plead,
            Promises::pleaded, Promises::stands, Promises::marks, Promises::strike, Promises::keep, Promises::again,
            Promises::count, Promises::row};
        for (int i = 0; i < tests.length; i++) {
            promise = i + 1;
            tests[i].run();
        }
    }

    public static void main(String[] args) {
        testAll();
        System.out.println(wrong == 0 ? "all promises 1 to " + promise + " are kept" : wrong + " answers are not as due");
        if (wrong != 0) {
            System.exit(1);
        }
    }
}
