/** What stands ahead of the promises: how long an object is used, the constant, and "Terms". */
public final class TermSentences extends Bench {
    @Says(promise = 0, words = "An object is used for at most 512 calls after it has been made; what later calls answer is free.")
    static void p00The512thCallIsTheLastOfWhichTheAnswerIsDue() {
        SomeAreNoneIs x = new SomeAreNoneIs();
        x.sign('A' << 24 | 'a' << 16 | 'b' << 8 | '@');
        x.sign('7' << 24 | '?' << 16);
        x.end(6);
        due("told(), call 4", 1, x.told());
        for (int call = 5; call <= 511; call++) {
            due("follows(Aab), call " + call, 1, x.follows(c("Aab")));
        }
        due("count(0), call 512", 1, x.count(0));
    }

    @Says(promise = 0, words = "public static final int NONE = -1;")
    static void p00NoneIsMinusOne() {
        due("NONE", -1, SomeAreNoneIs.NONE);
    }

    @Says(promise = 0, words = "KINDS a .. l; TERMS 0 .. 23: 2 k is KIND number k, 2 k + 1 what is not of it.")
    static void p00KindsAreAToLAndTerms0To23() {
        SomeAreNoneIs x = new SomeAreNoneIs();
        for (int kind = 0; kind < 12; kind++) {
            String letter = String.valueOf((char) ('a' + kind));
            x = court("A" + letter + "-" + letter + "@0");
            due("saying(0, 0) of " + letter, 24 * 2 * kind + 2 * kind + 1, x.saying(0, 0));
            due("empty() if nobody is " + letter, 1 << 2 * kind, x.empty());
            due("sorts() of nobody of " + letter, 2048, x.sorts());
            due("both(not " + letter + ", likewise)", 2048, x.both(2 * kind + 1, 2 * kind + 1));
        }
        due("told() of a KIND ahead of a", -2, told(x, "A`a@0"));
        due("told() of a KIND behind l", -2, told(x, "Ama@0"));
        due("lives(11)", true, x.lives(11, true));
        due("lives(12)", false, x.lives(12, true));
        due("all(23)", terms("-l"), new SomeAreNoneIs().all(23));
        due("all(24)", -1, x.all(24));
        due("all(0)", terms("a"), new SomeAreNoneIs().all(0));
        due("all(-1)", -1, x.all(-1));
    }

    @Says(promise = 0, words = "A SORT of people: bits 0 .. 11 (of which KINDS it is): 0 .. 4095.")
    static void p00SortsAre0To4095() {
        SomeAreNoneIs x = new SomeAreNoneIs();
        due("sort(0)", 0, x.sort(0));
        due("sort(4095)", 4095, x.sort(4095));
        due("sort(4096)", -2, x.sort(4096));
        x.sheet(2, 12, 1, 0);
        due("judge(4095): all KINDS", 1, x.judge(4095, NOBODY, NOBODY));
        due("judge(0): no KIND", 0, x.judge(0, NOBODY, NOBODY));
        dueRow("judge(0)", x, 0, 4095);
        due("judge(2048)", 0, x.judge(2048, NOBODY, NOBODY));
        dueRow("judge(2048): l is bit 11", x, 0, 2047);
        due("judge(1)", 0, x.judge(1, NOBODY, NOBODY));
        dueRow("judge(1): a is bit 0", x, 0, 4094);
    }

    @Says(promise = 0, words = "A TOWN is a set of SORTS (it may have none).")
    static void p00ATownMayHaveNoSorts() {
        SomeAreNoneIs x = court("Aa-a@0;A-aa@0");
        due("sorts(): nobody can be", 0, x.sorts());
        due("holds(): of nobody", 1, x.holds());
        due("town()", 0, x.town());
        dueRow("town()", x);
        due("judge(nobody)", 1, x.judge(NOBODY, NOBODY, NOBODY));
        due("decided(Iaa): nobody is a", 2, x.decided(c("Iaa")));
        due("judge() of a set: one SORT three times", 0, x.judge(0, 0, 0));
        dueRow("judge()", x, 2, 0);
    }

    @Says(promise = 0, words = "A SAYING: a FORM and two TERMS: 0 (A) all x are y; 1 (E) no x is y; 2 (I) some x are y; 3 (O) some x are not y.")
    static void p00FormsAre0To3() {
        SomeAreNoneIs x = court("Aab@0;Eab@0;Iab@0;Oab@0");
        for (int form = 0; form < 4; form++) {
            due("saying(" + form + ", 0)", 576 * form + 2, x.saying(form, 0));
        }
        due("told() of another FORM, ahead of A", -1, told(x, "@ab@0"));
        due("told() of another FORM, behind O", -1, told(x, "Pab@0"));
        due("mood() of FORM 3", 2, x.mood(3, 0, 3, 3));
        due("mood() of FORM 4", -1, x.mood(4, 0, 3, 3));
        due("mood() of FORM -1", -1, x.mood(-1, 0, 3, 3));
    }

    @Says(promise = 0, words = "It is true of a TOWN as it says: A and E also if there is no x in it, I and O if there is such a SORT in it.")
    static void p00FormsAreTrueAsTheySay() {
        SomeAreNoneIs x = court("Aab@0;Eab@0;Iab@0;Oab@0");
        x.judge(NOBODY, NOBODY, NOBODY);
        dueRow("judge(nobody): I and O are false", x, 12, 0);
        x.judge(s("b"), NOBODY, NOBODY);
        dueRow("judge(b): no x", x, 12, 0);
        x.judge(s("ab"), NOBODY, NOBODY);
        dueRow("judge(ab)", x, 2 + 8, 0);
        x.judge(s("a"), NOBODY, NOBODY);
        dueRow("judge(a)", x, 1 + 4, 0);
        x.judge(s("a"), s("ab"), NOBODY);
        dueRow("judge(a; ab)", x, 1 + 2, 0);
    }

    @Says(promise = 0, words = "SAYINGS 0 .. (at most 16): by a WITNESS 0 .. 7, DOUBTED or not, WITHDRAWN or not.")
    static void p00SayingsAreAtMost16() {
        SomeAreNoneIs x = sixteen();
        due("count(0)", 16, x.count(0));
        due("saying(15, 0)", c("Ibb"), x.saying(15, 0));
        due("saying(15, 1)", 7, x.saying(15, 1));
        due("saying(0, 1)", 0, x.saying(0, 1));
        due("saying(13, 2)", 1, x.saying(13, 2));
        due("saying(14, 2)", 0, x.saying(14, 2));
        due("saying(13, 3)", 0, x.saying(13, 3));
        due("told() of a 17th", -1, told(x, "Aab@0"));
        due("count(0)", 16, x.count(0));
        SomeAreNoneIs y = court(lines("Aab@0", 12), lines("Abc@1", 3));
        due("told() of a 16th", 1, told(y, "Acd@0"));
        due("count(0)", 16, y.count(0));
    }

    @Says(promise = 0, words = "KINDS that LIVE (at first none): a SORT of it is in each TOWN.")
    static void p00KindsThatLiveAreInEachTown() {
        SomeAreNoneIs x = new SomeAreNoneIs();
        due("count(2) at first", 0, x.count(2));
        for (int kind = 0; kind < 12; kind++) {
            int alive = 2 * 576 + 24 * 2 * kind + 2 * kind;
            due("follows(somebody is of KIND " + kind + ") at first", 0, x.follows(alive));
            x.lives(kind, true);
            due("follows(somebody is of KIND " + kind + ")", 2, x.follows(alive));
            due("follows(somebody is not)", 0, x.follows(2 * 576 + 24 * (2 * kind + 1) + 2 * kind + 1));
        }
        due("judge(nobody)", 0, x.judge(NOBODY, NOBODY, NOBODY));
    }

    @Says(promise = 0, words = "WANTED: at most 6 others.")
    static void p00WantedAreAtMost6() {
        SomeAreNoneIs x = new SomeAreNoneIs();
        for (int i = 1; i <= 6; i++) {
            due("want() number " + i, i, x.want(i));
        }
        due("want() number 7", -1, x.want(7));
        due("count(1)", 6, x.count(1));
    }

    @Says(promise = 0, words = {"They are told by a text of at most 76 signs, LINES with ; between:"})
    static void p00ATextHasAtMost76Signs() {
        String nine = lines("A-a-b@0?", 7) + ";Aab@0?;Aab@0?";
        due("signs of the longest text", 76, nine.length());
        due("told() of 76 signs", 9, told(new SomeAreNoneIs(), nine));
        String more = lines("A-a-b@0?", 7) + ";A-ab@0?;Aab@0";
        due("signs of the other one", 76, more.length());
        due("told() of 76 signs", 9, told(new SomeAreNoneIs(), more));
        due("told() of 77 signs", -77, told(new SomeAreNoneIs(), more + "?"));
    }

    @Says(promise = 0, words = {"A, E, I or O, perhaps -, a KIND (a letter a .. l), perhaps -, a KIND (- is what is not of it), @, "
        + "a WITNESS (a digit 0 .. 7), perhaps ? (DOUBTED)."})
    static void p00ALineIsReadSoAndNotOtherwise() {
        String[] texts = {"Aab@0", "Eal@7", "I-la@0?", "Oa-l@7?", "A-a-a@3", "Ell@4?"};
        int[] codes = {c("Aab"), c("Eal"), c("I-la"), c("Oa-l"), c("A-a-a"), c("Ell")};
        int[] witnesses = {0, 7, 0, 7, 3, 4};
        int[] doubts = {0, 0, 1, 1, 0, 1};
        for (int i = 0; i < texts.length; i++) {
            SomeAreNoneIs x = new SomeAreNoneIs();
            due("told() of " + texts[i], 1, told(x, texts[i]));
            due("saying(0, 0) of " + texts[i], codes[i], x.saying(0, 0));
            due("saying(0, 1) of " + texts[i], witnesses[i], x.saying(0, 1));
            due("saying(0, 2) of " + texts[i], doubts[i], x.saying(0, 2));
            due("saying(0, 3) of " + texts[i], 0, x.saying(0, 3));
        }
        String[] others = {"aab@0", "Amb@0", "Aam@0", "A`b@0", "Aa`@0", "A--b@0", "Aa--b@0", "Aab0", "Aab@8", "Aab@/", "Aab@0??", "Aab@10",
            "-Aab@0", "Aab-@0", "AaB@0", "Aab@?", "Aab@0,Aab@0", " Aab@0", "Aab@0 "};
        int[] places = {0, 1, 2, 1, 2, 2, 3, 3, 4, 4, 6, 5, 0, 3, 2, 4, 5, 0, 5};
        for (int i = 0; i < others.length; i++) {
            due("told() of " + others[i], -1 - places[i], told(new SomeAreNoneIs(), others[i]));
        }
    }

    @Says(promise = 0, words = {"A TOWN HOLDS, if all SAYINGS that are not WITHDRAWN are true of it, and all KINDS that LIVE are in it."})
    static void p00ATownHoldsIfAllIsTrueOfIt() {
        SomeAreNoneIs x = court("Aab@0;Iab@1;Oab@2");
        due("holds()", 0, x.holds());
        due("judge(ab)", 0, x.judge(s("ab"), NOBODY, NOBODY));
        x.mark(2, 1, true);
        due("holds() without Oab", 1, x.holds());
        due("judge(ab) without Oab", 1, x.judge(s("ab"), NOBODY, NOBODY));
        due("judge(b) without Oab", 0, x.judge(s("b"), NOBODY, NOBODY));
        x.lives(11, true);
        due("judge(ab), and l lives", 0, x.judge(s("ab"), NOBODY, NOBODY));
        due("judge(ab; l)", 1, x.judge(s("ab"), s("l"), NOBODY));
        x.mark(0, 1, true);
        x.mark(1, 1, true);
        x.lives(11, false);
        due("judge(nobody), all is WITHDRAWN", 1, x.judge(NOBODY, NOBODY, NOBODY));
    }

    @Says(promise = 0, words = {"A SAYING FOLLOWS from some, if it is true of each TOWN of which these are true, "
        + "and in which all KINDS are that LIVE (of all, if there is no such TOWN)."})
    static void p00WhatFollowsIfThereIsNoSuchTown() {
        SomeAreNoneIs x = court("Iab@0;Eab@1");
        for (int code = 0; code < 2304; code += 7) {
            due("from(3, " + code + "): there is no TOWN", 1, x.from(3, code));
        }
        due("from(1, Iab)", 1, x.from(1, c("Iab")));
        due("from(1, Ibb)", 1, x.from(1, c("Ibb")));
        due("from(2, Iab)", 0, x.from(2, c("Iab")));
        due("from(0, Eaa)", 0, x.from(0, c("Eaa")));
        SomeAreNoneIs y = court("Eaa@0");
        due("follows(Ill): a need not be", 0, y.follows(c("Ill")));
        y.lives(0, true);
        due("follows(Ill): a lives, and nobody is a", 2, y.follows(c("Ill")));
        due("follows(Ell): likewise", 2, y.follows(c("Ell")));
        due("decided(Ill)", 3, y.decided(c("Ill")));
    }

    /** s is a, m is b, p is c. */
    private static final String[][] MOODS = {{"Abc", "Aab", "Aac"}, {"Ebc", "Aab", "Eac"}, {"Abc", "Iab", "Iac"}, {"Ebc", "Iab", "Oac"},
        {"Ecb", "Aab", "Eac"}, {"Acb", "Eab", "Eac"}, {"Ecb", "Iab", "Oac"}, {"Acb", "Oab", "Oac"},
        {"Ibc", "Aba", "Iac"}, {"Abc", "Iba", "Iac"}, {"Obc", "Aba", "Oac"}, {"Ebc", "Iba", "Oac"},
        {"Acb", "Eba", "Eac"}, {"Icb", "Aba", "Iac"}, {"Ecb", "Iba", "Oac"},
        {"Abc", "Aba", "Iac"}, {"Ebc", "Aba", "Oac"}, {"Ecb", "Aba", "Oac"}, {"Acb", "Aba", "Iac"}};

    @Says(promise = 0, words = {"MOODS: a first premise (with the MAJOR term p, which is the second of the conclusion), a second one "
        + "(with the MINOR term s, the first of it), a MIDDLE m in both; FIGURE 1: m p, s m; 2: p m, s m; 3: m p, m s; 4: p m, m s; conclusion s p.",
        "Numbers 0 .. 18: FIGURE 1: AAA, EAE, AII, EIO; 2: EAE, AEE, EIO, AOO; 3: IAI, AII, OAO, EIO; 4: AEE, IAI, EIO;"})
    static void p00Moods0To14NeedNobody() {
        SomeAreNoneIs x = new SomeAreNoneIs();
        for (int mood = 0; mood < 19; mood++) {
            String[] m = MOODS[mood];
            due("step(" + mood + ", " + m[0] + ", " + m[1] + ")", mood < 15 ? c(m[2]) : -2, x.step(mood, c(m[0]), c(m[1])));
        }
        x.sheet(2, 12, 1, 0);
        for (int mood = 0; mood < 19; mood++) {
            for (int forms = 0; forms < 16; forms++) {
                int figure = mood < 15 ? 1 + mood / 4 : mood < 17 ? 3 : 4;
                int first = 576 * (forms >> 2) + (figure % 2 == 1 ? c("Abc") : c("Acb"));
                int second = 576 * (forms & 3) + (figure < 3 ? c("Aab") : c("Aba"));
                boolean its = first == c(MOODS[mood][0]) && second == c(MOODS[mood][1]);
                due("step(" + mood + ", " + first + ", " + second + ")", its ? c(MOODS[mood][2]) : -2, x.step(mood, first, second));
            }
        }
    }

    @Says(promise = 0, words = "and, if m is a KIND that LIVES: 3: AAI, EAO; 4: EAO; if p is one: 4: AAI.")
    static void p00Moods15To18NeedAKindThatLives() {
        for (int mood = 15; mood < 19; mood++) {
            String[] m = MOODS[mood];
            int need = mood == 18 ? 2 : 1;
            SomeAreNoneIs x = new SomeAreNoneIs();
            x.lives(need, true);
            due("step(" + mood + "): it lives", c(m[2]), x.step(mood, c(m[0]), c(m[1])));
            x.sheet(2, 12, 1, 0);
            x.lives(need, false);
            due("step(" + mood + "): all others live", -2, x.step(mood, c(m[0]), c(m[1])));
            x.sheet(2, 12, 1, 0);
            String not = need == 1 ? "b" : "c";
            int first = c(m[0].replace(not, "-" + not));
            int second = c(m[1].replace(not, "-" + not));
            due("step(" + mood + "): what is not of a KIND is none", -2, x.step(mood, first, second));
        }
    }

    @Says(promise = 0, words = {"Of one premise: 19: E or I turned (y x);"})
    static void p00Mood19TurnsEAndI() {
        SomeAreNoneIs x = new SomeAreNoneIs();
        due("step(19, Aa-l)", -2, x.step(19, c("Aa-l"), -1));
        due("step(19, Ea-l)", c("E-la"), x.step(19, c("Ea-l"), -1));
        due("step(19, Ia-l)", c("I-la"), x.step(19, c("Ia-l"), -1));
        due("step(19, Oa-l)", -2, x.step(19, c("Oa-l"), -1));
    }

    @Says(promise = 0, words = {"20: the other FORM of the same kind (A for E, E for A, I for O, O for I) with what is not y (of what is not of it: it);"})
    static void p00Mood20TakesTheOtherForm() {
        SomeAreNoneIs x = new SomeAreNoneIs();
        due("step(20, Ea-l)", c("Aal"), x.step(20, c("Ea-l"), -1));
        due("step(20, A-al)", c("E-a-l"), x.step(20, c("A-al"), -1));
        due("step(20, Oa-l)", c("Ial"), x.step(20, c("Oa-l"), -1));
        due("step(20, I-al)", c("O-a-l"), x.step(20, c("I-al"), -1));
    }

    @Says(promise = 0, words = "21: from A I, from E O of the same terms, if x is a KIND that LIVES.")
    static void p00Mood21NeedsThatXLives() {
        SomeAreNoneIs x = new SomeAreNoneIs();
        due("step(21, Aal): nobody lives", -2, x.step(21, c("Aal"), -1));
        x.lives(0, true);
        due("step(21, Aal)", c("Ial"), x.step(21, c("Aal"), -1));
        due("step(21, Ea-l)", c("Oa-l"), x.step(21, c("Ea-l"), -1));
        due("step(21, Ial)", -2, x.step(21, c("Ial"), -1));
        due("step(21, Oal)", -2, x.step(21, c("Oal"), -1));
        due("step(21, A-al): no KIND", -2, x.step(21, c("A-al"), -1));
        due("step(21, Ala): l does not live", -2, x.step(21, c("Ala"), -1));
        x.lives(11, true);
        due("step(21, Ala)", c("Ila"), x.step(21, c("Ala"), -1));
    }

    @Says(promise = 0, words = "ALLOWED: bits of them (at first all).")
    static void p00AllAreAllowedAtFirst() {
        SomeAreNoneIs x = new SomeAreNoneIs();
        due("count(3)", (1 << 22) - 1, x.count(3));
        due("allow(0)", (1 << 22) - 1, x.allow(0));
    }

    @Says(promise = 0, words = "ROW: numbers told last by a call that says so.")
    static void p00TheRowStaysTillACallTellsAnother() {
        Call[] silent = {x -> x.sign(7), x -> x.end(0) ? 1 : 0, x -> x.told(), x -> x.saying(0, 0), x -> x.mark(0, 0, true) ? 1 : 0,
            x -> x.lives(3, true) ? 1 : 0, x -> x.want(5), x -> x.forget(), x -> x.sheet(2, 12, 1, 0), x -> x.holds(), x -> x.follows(0),
            x -> x.decided(0), x -> x.from(1, 0), x -> x.needs(0), x -> x.idle(), x -> x.alike(0, 1), x -> x.trusts(255, 0), x -> x.all(0),
            x -> x.empty(), x -> x.sorts(), x -> x.sort(0), x -> x.both(0, 1), x -> x.allow(0), x -> x.step(19, 578, -1), x -> x.gap(),
            x -> x.plead(), x -> x.pleaded(0, 0), x -> x.stands(), x -> x.strike(), x -> x.keep(1) ? 1 : 0, x -> x.again(0) ? 1 : 0,
            x -> x.count(6), x -> x.row(0)};
        for (int i = 0; i < silent.length; i++) {
            SomeAreNoneIs x = busy();
            x.judge(1, 5, NOBODY);
            silent[i].on(x);
            dueRow("call " + i + " that tells no ROW", x, 1, 2048);
        }
    }

    @Says(promise = 0, words = "ROW: numbers told last by a call that says so.")
    static void p00AnAnswerThatTellsNoNumbersLeavesTheRow() {
        Call[] vain = {x -> x.want(c("Ala")) > 0 ? x.fewest() : 0, x -> x.convicts(c("Ala")), x -> x.chain(t("l"), t("a")),
            x -> x.refute(c("Aab")), x -> x.proof(c("Ala")), x -> x.rests(c("Ala"))};
        for (int i = 0; i < vain.length; i++) {
            SomeAreNoneIs x = busy();
            due("call " + i, -2, vain[i].on(x));
            dueRow("call " + i + " of -2", x, 1, 2048);
        }
        SomeAreNoneIs y = court("Iaa@0;Eaa@0");
        y.judge(1, 1, 1);
        due("town()", -2, y.town());
        dueRow("town() of -2", y, 2, 0);
        SomeAreNoneIs z = court("Iaa@0");
        z.sheet(2, 12, 1, 0);
        z.judge(1, 1, 1);
        due("town()", -3, z.town());
        dueRow("town() of -3", z, 0, 4094);
        due("refute(Iab)", -3, z.refute(c("Iab")));
        dueRow("refute() of -3", z, 0, 4094);
    }

    @Says(promise = 0, words = "Rows are compared from the first number on.")
    static void p00RowsAreComparedFromTheFirstNumberOn() {
        // By b the row is 0, 3, by c it is 1, 2: the first number tells.
        SomeAreNoneIs x = court("Aab@0;Aac@0;Acd@0;Abd@0");
        due("chain(a, d)", 2, x.chain(t("a"), t("d")));
        dueRow("chain(a, d)", x, 0, 3);
        // a goes with c, or b does: 2, 5 is less than 1, 6 but for its first number.
        SomeAreNoneIs y = court("Eab@0");
        y.sheet(2, 3, 1, 0);
        due("town()", 2, y.town());
        dueRow("town(): a; b, c", y, 1, 6);
    }

    @Says(promise = 0, words = "CODE of a SAYING: 576 FORM + 24 x + y.")
    static void p00CodesAre0To2303() {
        SomeAreNoneIs x = court("Aaa@0;O-l-l@0;E-lb@0");
        due("saying(0, 0)", 0, x.saying(0, 0));
        due("saying(1, 0)", 2303, x.saying(1, 0));
        due("saying(2, 0)", 576 + 24 * 23 + 2, x.saying(2, 0));
        due("want(2303)", 1, x.want(2303));
        due("want(2304)", -1, x.want(2304));
        due("want(0)", 2, x.want(0));
        due("want(-1)", -1, x.want(-1));
    }

    @Says(promise = 0, words = "Refused calls answer NONE, or false, and change nothing but THE TEXT, which a call that reads it empties.")
    static void p00RefusedCallsChangeNothingButTheText() {
        Call[] none = {x -> x.want(-1), x -> x.sheet(4, 1, 1, 1), x -> x.follows(-1), x -> x.decided(2304), x -> x.from(-1, 0),
            x -> x.needs(-1), x -> x.alike(0, -1), x -> x.truth(8), x -> x.trusts(256, 0), x -> x.convicts(-1), x -> x.all(24),
            x -> x.chain(0, 24), x -> x.sort(-1), x -> x.both(24, 0), x -> x.refute(-1), x -> x.judge(4097, 0, 0),
            x -> x.mood(4, 0, 0, 1), x -> x.figure(5), x -> x.forms(24, 0), x -> x.allow(-1), x -> x.step(22, 0, -1), x -> x.proof(-1),
            x -> x.rests(-1), x -> x.marks(4), x -> x.count(8)};
        for (int i = 0; i < none.length; i++) {
            refused("refused call " + i, none[i]);
        }
        Call[] isFalse = {x -> x.end(8) ? 1 : 0, x -> x.mark(4, 0, true) ? 1 : 0, x -> x.lives(12, true) ? 1 : 0,
            x -> x.keep(3) ? 1 : 0, x -> x.again(1) ? 1 : 0};
        for (int i = 0; i < isFalse.length; i++) {
            refusedAsFalse("false call " + i, isFalse[i]);
        }
        refusedText("told() refused", Bench::busy, -9, "Acd@1?;I", x -> x.told());
        refusedText("plead() refused", Bench::busy, -2, "0", x -> x.plead());
        refusedText("plead() that does not follow", Bench::busy, -103, "0:0Akl", x -> x.plead());
    }

    public static void main(String[] args) {
        run(TermSentences.class);
    }
}
