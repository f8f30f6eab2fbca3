/** What follows: promises 11 to 18. */
public final class FollowsSentences extends Bench {
    @Says(promise = 0, words = "what follows (from SAYINGS that are not WITHDRAWN)")
    static void p00WhatIsWithdrawnDoesNotCount() {
        SomeAreNoneIs x = court("Aab@0;Abc@1;Iad@2;Ead@3;Aab@4");
        x.mark(3, 1, true);
        x.mark(4, 1, true);
        due("holds()", 1, x.holds());
        due("follows(Aac)", 2, x.follows(c("Aac")));
        due("needs(Aac): the other Aab is WITHDRAWN", 3, x.needs(c("Aac")));
        due("idle(): likewise", 0, x.idle());
        x.mark(0, 1, true);
        due("follows(Aac) without Aab", 0, x.follows(c("Aac")));
        due("decided(Aac) without Aab", 0, x.decided(c("Aac")));
        due("needs(Aac) without Aab", -2, x.needs(c("Aac")));
        x.want(c("Aac"));
        due("fewest() without Aab", -2, x.fewest());
    }

    // ---- promise 11

    @Says(promise = 11, words = "Whether a TOWN HOLDS at all: 1, 0.")
    static void p11WhetherATownHoldsAtAll() {
        idleCall("holds() of nothing", SomeAreNoneIs::new, 1, x -> x.holds());
        idleCall("holds()", Bench::busy, 1, x -> x.holds());
        SomeAreNoneIs x = sixteen();
        due("holds() of 16: Ial and Ela", 0, x.holds());
        x.mark(14, 1, true);
        due("holds() of 15", 1, x.holds());
        x.sheet(2, 12, 1, 0);
        due("holds(): all KINDS live", 1, x.holds());
        x.mark(14, 1, false);
        x.mark(11, 1, true);
        due("holds(): all live, and no l is a", 0, x.holds());
        x.sheet(3, 0, 0, 0);
        x.mark(15, 1, true);
        due("holds(): nobody need be", 1, x.holds());
        for (int i = 0; i < 16; i++) {
            x.mark(i, 1, true);
        }
        due("holds(): all is WITHDRAWN", 1, x.holds());
        due("holds() of Ia-a", 0, court("Ia-a@0").holds());
        due("holds() of Oaa", 0, court("Oaa@0").holds());
        due("holds() of Eaa", 1, court("Eaa@0").holds());
        SomeAreNoneIs y = court("Eaa@0;E-a-a@0");
        due("holds(): there can be nobody", 1, y.holds());
        y.lives(11, true);
        due("holds(): there can be nobody, and l lives", 0, y.holds());
    }

    // ---- promise 12

    @Says(promise = 12, words = {"1, if a SAYING FOLLOWS; 2, if it does also from those that are not DOUBTED; 0."})
    static void p12WhetherItFollows() {
        SomeAreNoneIs x = court("Aab@0;Abc@1?;Aac@2?");
        due("follows(Aab)", 2, x.follows(c("Aab")));
        due("follows(Aac)", 1, x.follows(c("Aac")));
        due("follows(Aca)", 0, x.follows(c("Aca")));
        due("follows(Aca)", 0, x.follows(c("Aca")));
        x.mark(2, 0, false);
        due("follows(Aac), no more DOUBTED", 2, x.follows(c("Aac")));
        x.mark(2, 1, true);
        due("follows(Aac), WITHDRAWN and not DOUBTED", 1, x.follows(c("Aac")));
        x.mark(1, 1, true);
        due("follows(Aac), all WITHDRAWN", 0, x.follows(c("Aac")));
        SomeAreNoneIs y = court("Iaa@0?;Eaa@1");
        due("follows(Ill): from what can't be, of which one is DOUBTED", 1, y.follows(c("Ill")));
        y.mark(0, 0, false);
        due("follows(Ill): none is DOUBTED", 2, y.follows(c("Ill")));
        y.mark(0, 0, true);
        y.mark(1, 0, true);
        due("follows(Ill): both are DOUBTED", 1, y.follows(c("Ill")));
        due("follows(All): from nothing at all", 2, y.follows(c("All")));
    }

    @Says(promise = 12, words = "1, if a SAYING FOLLOWS;")
    static void p12OfSixteenIAndOAndAllKinds() {
        SomeAreNoneIs x = court(lines("Iab@0", 12), lines("Oac@0", 4));
        x.sheet(2, 12, 1, 0);
        due("holds()", 1, x.holds());
        due("follows(Aaa): its contrary is one more", 2, x.follows(c("Aaa")));
        due("follows(Oac)", 2, x.follows(c("Oac")));
        due("follows(Icc)", 2, x.follows(c("Icc")));
        due("follows(Iac)", 0, x.follows(c("Iac")));
        due("decided(Ell)", 2, x.decided(c("Ell")));
    }

    @Says(promise = 12, words = "NONE: none such.")
    static void p12NoSuchCodeFollows() {
        dueOfCodes("follows", SomeAreNoneIs::new, 2, 0, (x, code) -> x.follows(code));
        dueOfCodes("follows of 16", () -> court("Iaa@0;Eaa@0"), 2, 2, (x, code) -> x.follows(code));
    }

    // ---- promise 13

    @Says(promise = 13, words = "1, if a SAYING FOLLOWS, 2, if its contrary does (what says that it is not so), 3, if both (no TOWN HOLDS); 0.")
    static void p13WhatIsDecided() {
        SomeAreNoneIs x = court("Aab@0;Iac@1");
        String[] sayings = {"Aab", "Oab", "Iab", "Eab", "Iac", "Eac", "Aba", "Oba", "Ebc", "Ibc", "Acc", "Occ", "Ec-c", "Ic-c", "Ekl", "Ikl"};
        int[] want = {1, 2, 1, 2, 1, 2, 0, 0, 2, 1, 1, 2, 1, 2, 0, 0};
        for (int i = 0; i < sayings.length; i++) {
            due("decided(" + sayings[i] + ")", want[i], x.decided(c(sayings[i])));
        }
        told(x, "Eab@2");
        for (String saying : sayings) {
            due("decided(" + saying + "): no TOWN HOLDS", 3, x.decided(c(saying)));
        }
        idleCall("decided(Aab)", Bench::busy, 1, y -> y.decided(c("Aab")));
    }

    @Says(promise = 13, words = "NONE: none such.")
    static void p13NoSuchCodeIsDecided() {
        dueOfCodes("decided", SomeAreNoneIs::new, 1, 2, (x, code) -> x.decided(code));
    }

    // ---- promise 14

    @Says(promise = 14, words = "Whether a SAYING FOLLOWS from SAYINGS told as bits (WITHDRAWN or not): 1, 0.")
    static void p14WhetherItFollowsFromBits() {
        SomeAreNoneIs x = court("Aab@0;Abc@1;Acd@2");
        for (int bits = 0; bits < 8; bits++) {
            due("from(" + bits + ", Aad)", bits == 7 ? 1 : 0, x.from(bits, c("Aad")));
            due("from(" + bits + ", Aac)", (bits & 3) == 3 ? 1 : 0, x.from(bits, c("Aac")));
            due("from(" + bits + ", Aaa)", 1, x.from(bits, c("Aaa")));
        }
        for (int i = 0; i < 3; i++) {
            x.mark(i, 1, true);
        }
        due("from(7, Aad): all are WITHDRAWN", 1, x.from(7, c("Aad")));
        due("from(6, Aad): all are WITHDRAWN", 0, x.from(6, c("Aad")));
        SomeAreNoneIs y = sixteen();
        due("from(32768, Ibb)", 1, y.from(32768, c("Ibb")));
        due("from(32767 but 0, Ibb)", 0, y.from(2047 - 1, c("Ibb")));
        due("from(65535, Ekk)", 1, y.from(65535, c("Ekk")));
    }

    @Says(promise = 14, words = "NONE: bits of none such, none such.")
    static void p14BitsOfNoneSuch() {
        due("from(0) of none", 1, new SomeAreNoneIs().from(0, 0));
        for (int bits : new int[] {1, 2, -1, MIN, MAX, 32768, 65536}) {
            refused("from(" + bits + ") of none", SomeAreNoneIs::new, -1, x -> x.from(bits, 0));
        }
        due("from(15) of four", 1, busy().from(15, 0));
        for (int bits : new int[] {16, 17, 31, 32768, 65535, 65536, -1, -16, MIN, MIN + 1, MAX}) {
            refused("from(" + bits + ") of four", x -> x.from(bits, 0));
        }
        due("from(65535) of 16", 1, sixteen().from(65535, 0));
        for (int bits : new int[] {65536, 65537, 131071, -1, MIN}) {
            refused("from(" + bits + ") of 16", Bench::sixteen, -1, x -> x.from(bits, 0));
        }
        dueOfCodes("from(0)", SomeAreNoneIs::new, 1, 0, (x, code) -> x.from(0, code));
        dueOfCodes("from(all)", Bench::sixteen, 1, 1, (x, code) -> x.from(x.count(5), code));
        refused("from(16, -1)", x -> x.from(16, -1));
    }

    // ---- promise 15

    @Says(promise = 15, words = "SAYINGS (bits) without which one alone a SAYING would not FOLLOW any more.")
    static void p15WithoutWhichOneAlone() {
        SomeAreNoneIs x = court("Aab@0;Abc@1;Acd@2;Aac@3");
        due("needs(Aaa): none", 0, x.needs(c("Aaa")));
        due("needs(Aac): either way", 0, x.needs(c("Aac")));
        due("needs(Aad): Acd alone", 4, x.needs(c("Aad")));
        due("needs(Abd)", 6, x.needs(c("Abd")));
        x.mark(3, 1, true);
        due("needs(Aac): one way", 3, x.needs(c("Aac")));
        SomeAreNoneIs y = sixteen();
        y.mark(12, 1, true);
        y.mark(13, 1, true);
        due("needs() of 16 that can't be: Ial and Ela", 1 << 11 | 1 << 14, withoutOthers(y).needs(c("Ekk")));
        SomeAreNoneIs z = court("Iaa@0;Eaa@1;Ibb@2;Ebb@3");
        due("needs(): it follows twice from what can't be", 0, z.needs(c("Ekk")));
    }

    private static SomeAreNoneIs withoutOthers(SomeAreNoneIs x) {
        for (int i = 0; i < 16; i++) {
            x.mark(i, 1, i != 11 && i != 14);
        }
        return x;
    }

    @Says(promise = 15, words = "-2: it does not; NONE: none such.")
    static void p15ItDoesNotOrThereIsNoneSuch() {
        dueOfCodes("needs", SomeAreNoneIs::new, 0, -2, (x, code) -> x.needs(code));
        idleCall("needs(Aba)", Bench::busy, -2, x -> x.needs(c("Aba")));
        SomeAreNoneIs x = court("Aab@0");
        due("needs(Aab)", 1, x.needs(c("Aab")));
        x.mark(0, 1, true);
        due("needs(Aab) without it", -2, x.needs(c("Aab")));
    }

    // ---- promise 16

    @Says(promise = 16, words = "The fewest SAYINGS (not WITHDRAWN) from which all that are WANTED FOLLOW: how many; the ROW: they (bits): of as few the least.")
    static void p16TheFewestForAllThatIsWanted() {
        SomeAreNoneIs x = court("Aab@0;Abc@1;Aad@2;Adc@3");
        due("fewest(): nothing is WANTED", 0, x.fewest());
        dueRow("fewest()", x, 0);
        x.want(c("Aaa"));
        due("fewest(): from none", 0, x.fewest());
        dueRow("fewest()", x, 0);
        x.want(c("Aac"));
        due("fewest(): of as few the least", 2, x.fewest());
        dueRow("fewest()", x, 3);
        x.mark(0, 1, true);
        due("fewest(): not WITHDRAWN", 2, x.fewest());
        dueRow("fewest()", x, 12);
        x.mark(0, 0, true);
        x.mark(0, 1, false);
        due("fewest(): DOUBTED or not", 2, x.fewest());
        dueRow("fewest()", x, 3);
        x.want(c("Adc"));
        x.want(c("Aad"));
        x.want(c("Abc"));
        x.want(c("Aab"));
        due("fewest() of six", 4, x.fewest());
        dueRow("fewest()", x, 15);
    }

    @Says(promise = 16, words = "of as few the least.")
    static void p16TheFewestOfSixteen() {
        SomeAreNoneIs x = court(lines("Aab@0", 12), lines("Aab@0", 4));
        x.want(c("Aab"));
        due("fewest() of 16 equal ones", 1, x.fewest());
        dueRow("fewest()", x, 1);
        x.mark(0, 1, true);
        x.fewest();
        dueRow("fewest() without the first", x, 2);
        for (int i = 0; i < 15; i++) {
            x.mark(i, 1, true);
        }
        due("fewest() of the last", 1, x.fewest());
        dueRow("fewest() of the last", x, 32768);
        SomeAreNoneIs y = court("Aab@0;Abc@0;Acd@0;Ade@0;Aef@0;Afg@0;Agh@0;Ahi@0;Aij@0;Ajk@0;Akl@0",
            "Iaa@0;O-aa@0;Ibb@0;Icc@0;Idd@0");
        y.want(c("Aal"));
        y.want(c("Iaa"));
        y.want(c("O-aa"));
        y.want(c("Ibl"));
        y.want(c("Icc"));
        y.want(c("Ial"));
        due("fewest() of 16 of which three are idle", 13, y.fewest());
        dueRow("fewest()", y, 2047 + (1 << 11) + (1 << 12));
    }

    @Says(promise = 16, words = "-2: not from all.")
    static void p16NotFromAll() {
        Made made = () -> {
            SomeAreNoneIs x = busy();
            x.want(c("Aba"));
            return x;
        };
        idleCall("fewest()", made, -2, x -> x.fewest());
        SomeAreNoneIs y = new SomeAreNoneIs();
        y.want(LAST_CODE);
        due("fewest() of no SAYINGS", -2, y.fewest());
        dueRow("fewest() of -2", y);
        y.forget();
        due("fewest()", 0, y.fewest());
    }

    // ---- promise 17

    @Says(promise = 17, words = "SAYINGS (bits, not WITHDRAWN) each of which FOLLOWS from all the others of these.")
    static void p17WhichAreIdle() {
        idleCall("idle() of none", SomeAreNoneIs::new, 0, x -> x.idle());
        due("idle() of one", 0, court("Aab@0").idle());
        due("idle() of one that says nothing", 1, court("Aaa@0").idle());
        due("idle() of two equal ones", 3, court("Aab@0;Aab@1").idle());
        SomeAreNoneIs x = court(lines("Aab@0", 12), lines("A-b-a@0", 4));
        due("idle() of 16", 65535, x.idle());
        for (int i = 0; i < 15; i++) {
            x.mark(i, 1, true);
        }
        due("idle() of the last", 0, x.idle());
        x.mark(14, 1, false);
        due("idle() of the last two", 3 << 14, x.idle());
        SomeAreNoneIs y = court("Iaa@0;Eaa@1;Akl@2;Ill@3");
        due("idle() of what can't be", 4 + 8, y.idle());
        y.lives(0, true);
        due("idle(): a lives", 1 + 4 + 8, y.idle());
    }

    // ---- promise 18

    @Says(promise = 18, words = "1, if each of two FOLLOWS from the other one alone, 2, if the second does from the first, 3, if the first does from the second, 0.")
    static void p18WhichAreAlike() {
        SomeAreNoneIs x = court("Aab@0;Abc@1");
        due("alike(Aab, Aab)", 1, x.alike(c("Aab"), c("Aab")));
        due("alike(Aab, A-b-a)", 1, x.alike(c("Aab"), c("A-b-a")));
        due("alike(Iab, Iaa)", 2, x.alike(c("Iab"), c("Iaa")));
        due("alike(Iaa, Iab)", 3, x.alike(c("Iaa"), c("Iab")));
        due("alike(Aab, Aac): what is told does not count", 0, x.alike(c("Aab"), c("Aac")));
        due("alike(Aaa, All): both always do", 1, x.alike(c("Aaa"), c("All")));
        due("alike(Oaa, Oll): neither can be", 1, x.alike(c("Oaa"), c("Oll")));
        due("alike(Oaa, Aab): all follows from what can't be", 2, x.alike(c("Oaa"), c("Aab")));
        due("alike(Aab, Aaa)", 2, x.alike(c("Aab"), c("Aaa")));
        due("alike(Aaa, Aab)", 3, x.alike(c("Aaa"), c("Aab")));
        due("alike(Aab, Iab)", 0, x.alike(c("Aab"), c("Iab")));
        x.lives(0, true);
        due("alike(Aab, Iab): a lives", 2, x.alike(c("Aab"), c("Iab")));
        due("alike(Iaa, Aaa): a lives", 1, x.alike(c("Iaa"), c("Aaa")));
        due("alike(Eaa, Oll): a lives", 1, x.alike(c("Eaa"), c("Oll")));
        idleCall("alike(Aab, Iab)", Bench::busy, 2, y -> y.alike(c("Aab"), c("Iab")));
    }

    @Says(promise = 18, words = "NONE: none such.")
    static void p18NoSuchCodesAreAlike() {
        dueOfCodes("alike(.., 0)", SomeAreNoneIs::new, 1, 2, (x, code) -> x.alike(code, 0));
        dueOfCodes("alike(0, ..)", SomeAreNoneIs::new, 1, 3, (x, code) -> x.alike(0, code));
        refused("alike(-1, 2304)", x -> x.alike(-1, 2304));
    }

    public static void main(String[] args) {
        run(FollowsSentences.class);
    }
}
