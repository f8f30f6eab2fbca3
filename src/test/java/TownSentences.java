/** Sorts and towns: promises 27 to 32. */
public final class TownSentences extends Bench {
    // ---- promise 27

    @Says(promise = 27, words = "How many SORTS can be in a TOWN by A and E.")
    static void p27HowManySortsCanBe() {
        idleCall("sorts() of none", SomeAreNoneIs::new, 4096, x -> x.sorts());
        idleCall("sorts(): Aab, Abc", Bench::busy, 2048, x -> x.sorts());
        due("sorts() of Aaa", 4096, court("Aaa@0").sorts());
        due("sorts() of Aab", 3072, court("Aab@0").sorts());
        due("sorts() of Ekl", 3072, court("Ekl@0").sorts());
        due("sorts() of Eaa", 2048, court("Eaa@0").sorts());
        SomeAreNoneIs x = court("Aab@0?;Ibb@1;Oab@2;Eab@3");
        x.sheet(2, 12, 1, 0);
        due("sorts(), I, O and who lives do not count", 2048, x.sorts());
        x.mark(3, 1, true);
        due("sorts(), one WITHDRAWN", 3072, x.sorts());
        due("sorts(): nobody", 0, court("Ell@0;E-l-l@0").sorts());
        SomeAreNoneIs one = court("A-aa@0;A-bb@0;A-cc@0;A-dd@0;A-ee@0;A-ff@0;A-gg@0;A-hh@0;A-ii@0;A-jj@0", "A-kk@0;A-ll@0");
        due("sorts(): one", 1, one.sorts());
        due("sort(0)", 4095, one.sort(0));
        due("sort(1)", -2, one.sort(1));
        told(one, "Eab@0");
        due("sorts(): none", 0, one.sorts());
        due("sort(0)", -2, one.sort(0));
    }

    // ---- promise 28

    @Says(promise = 28, words = "The SORT number k (0 .., by numbers) of these.")
    static void p28TheSortNumberK() {
        SomeAreNoneIs x = new SomeAreNoneIs();
        for (int k : new int[] {0, 1, 63, 64, 65, 2047, 2048, 4094, 4095}) {
            due("sort(" + k + ")", k, x.sort(k));
        }
        SomeAreNoneIs first = court("A-aa@0");
        due("sort(0) if all are a", 1, first.sort(0));
        due("sort(1)", 3, first.sort(1));
        due("sort(2047)", 4095, first.sort(2047));
        SomeAreNoneIs last = court("Ell@0");
        due("sort(2047) if nobody is l", 2047, last.sort(2047));
        due("sort(2048)", -2, last.sort(2048));
        SomeAreNoneIs high = court("A-ll@0");
        due("sort(0) if all are l", 2048, high.sort(0));
        due("sort(2047)", 4095, high.sort(2047));
        idleCall("sort(0)", Bench::busy, 0, y -> y.sort(0));
        idleCall("sort(1)", Bench::busy, s("c"), y -> y.sort(1));
    }

    @Says(promise = 28, words = "-2: there are not so many; NONE: k below 0.")
    static void p28NotSoManyAndBelow0() {
        for (int k : new int[] {4096, 4097, MAX}) {
            refused("sort(" + k + ") of all", SomeAreNoneIs::new, -2, x -> x.sort(k));
        }
        for (int k : new int[] {2048, 2049, 4095, 4096, MAX}) {
            refused("sort(" + k + ") of 2048", Bench::busy, -2, x -> x.sort(k));
        }
        due("sort(2047) of 2048", 4095, busy().sort(2047));
        for (int k : new int[] {-1, -2, MIN}) {
            refused("sort(" + k + ")", x -> x.sort(k));
            refused("sort(" + k + ") of nobody", () -> court("Ell@0;E-l-l@0"), -1, x -> x.sort(k));
        }
        due("sort(0) of nobody", -2, court("Ell@0;E-l-l@0").sort(0));
    }

    // ---- promise 29

    @Says(promise = 29, words = "How many of these are of two TERMS.")
    static void p29HowManyAreOfTwoTerms() {
        SomeAreNoneIs x = new SomeAreNoneIs();
        for (int first = 0; first < 24; first++) {
            for (int second = 0; second < 24; second++) {
                int want = first == second ? 2048 : first / 2 == second / 2 ? 0 : 1024;
                due("both(" + first + ", " + second + ")", want, new SomeAreNoneIs().both(first, second));
            }
        }
        told(x, "Akl@0;Iaa@0;Oaa@0");
        x.lives(10, true);
        due("both(k, l)", 1024, x.both(t("k"), t("l")));
        due("both(k, -l)", 0, x.both(t("k"), t("-l")));
        due("both(k, k)", 1024, x.both(t("k"), t("k")));
        due("both(a, l)", 1024, x.both(t("a"), t("l")));
        x.mark(0, 1, true);
        due("both(k, -l), WITHDRAWN", 1024, x.both(t("k"), t("-l")));
        due("both() of nobody", 0, court("Ell@0;E-l-l@0").both(t("a"), t("a")));
        idleCall("both(a, c)", Bench::busy, 512, y -> y.both(t("a"), t("c")));
    }

    @Says(promise = 29, words = "NONE: none such.")
    static void p29NoSuchTermsOfSorts() {
        dueOfTerms("both(.., 0)", SomeAreNoneIs::new, 2048, 1024, (x, term) -> x.both(term, 0));
        dueOfTerms("both(23, ..)", SomeAreNoneIs::new, 1024, 2048, (x, term) -> x.both(23, term));
        refused("both(24, 24)", x -> x.both(24, 24));
        refused("both(-1, -1)", x -> x.both(-1, -1));
    }

    // ---- promise 30

    /** Of a .. f no two can go together. */
    private static SomeAreNoneIs sixApart() {
        return court("Eab@0;Eac@0;Ead@0;Eae@0;Eaf@0;Ebc@0;Ebd@0;Ebe@0;Ebf@0;Ecd@0;Ece@0", "Ecf@0;Ede@0;Edf@0;Eef@0");
    }

    @Says(promise = 30, words = "The least TOWN that HOLDS: how many SORTS; the ROW: they, the least first: of as few the least row.")
    static void p30TheLeastTownThatHolds() {
        SomeAreNoneIs none = new SomeAreNoneIs();
        none.judge(0, 0, 0);
        due("town() of none: nobody", 0, none.town());
        dueRow("town() of none", none);
        none.lives(11, true);
        due("town(): l lives", 1, none.town());
        dueRow("town(): l lives", none, 2048);
        none.sheet(2, 12, 1, 0);
        due("town(): all live", 1, none.town());
        dueRow("town(): all live", none, 4095);
        SomeAreNoneIs six = sixApart();
        six.sheet(2, 6, 1, 0);
        due("town() of six", 6, six.town());
        dueRow("town() of six", six, 1, 2, 4, 8, 16, 32);
        six.sheet(2, 12, 1, 0);
        due("town() of six for twelve", 6, six.town());
        dueRow("town(): the last has all others", six, 1, 2, 4, 8, 16, 4095 - 31);
        for (int i = 0; i < 15; i++) {
            six.mark(i, 1, true);
        }
        due("town() of twelve, all WITHDRAWN", 1, six.town());
        dueRow("town() of twelve, all WITHDRAWN", six, 4095);
        SomeAreNoneIs sortZero = court("I-a-l@0;Iaa@0");
        due("town(): one is of nothing", 2, sortZero.town());
        dueRow("town(): one is of nothing", sortZero, 0, 1);
        dueRowAlone("town(): a, b, c, no f, and l", 1, x -> x.town(), s("abcl"));
    }

    @Says(promise = 30, words = "-2: none (asked first);")
    static void p30NoTownHolds() {
        Made[] cases = {() -> court("Oaa@0"), () -> court("Iab@0;Eab@0"), () -> {
            SomeAreNoneIs x = busy();
            told(x, "Eaa@0");
            return x;
        }};
        for (Made made : cases) {
            idleCall("town()", made, -2, x -> x.town());
        }
        SomeAreNoneIs y = court("Iaa@0;Eaa@0");
        y.sheet(2, 12, 1, 0);
        y.judge(0, 1, 2);
        due("town() of 13 of which none HOLDS", -2, y.town());
        dueRow("town() of -2", y, 2, 4095 - 3);
        SomeAreNoneIs z = court(lines("Iaa@0", 12), "Ibb@0;Icc@0;Oll@0");
        due("town() of 15 of which none HOLDS", -2, z.town());
        z.mark(14, 1, true);
        due("town() of 14", -3, z.town());
        z.mark(13, 1, true);
        due("town() of 13", -3, z.town());
        z.mark(12, 1, true);
        due("town() of 12", 1, z.town());
    }

    @Says(promise = 30, words = "-3: more than 12 of I, O and KINDS that LIVE together.")
    static void p30MoreThan12() {
        SomeAreNoneIs x = new SomeAreNoneIs();
        x.sheet(2, 12, 1, 0);
        due("town() of 12 KINDS", 1, x.town());
        told(x, "Aab@0;Ea-l@1");
        due("town() of 12 KINDS with A and E", 1, x.town());
        told(x, "Iab@0");
        due("town() of 12 KINDS and I", -3, x.town());
        dueRow("town() of -3", x, 4095);
        x.lives(7, false);
        due("town() of 11 KINDS and I", 1, x.town());
        dueRow("town()", x, 4095 - 128);
        told(x, "Oak@0");
        due("town() of 11 KINDS, I and O", -3, x.town());
        x.mark(2, 1, true);
        due("town() of 11 KINDS and O", 2, x.town());
        SomeAreNoneIs equal = court(lines("Iab@0", 12), "Iab@0");
        due("town() of 13 equal I", -3, equal.town());
        equal.mark(5, 1, true);
        due("town() of 12 equal I", 1, equal.town());
        dueRow("town() of 12 equal I", equal, 3);
        equal.lives(0, true);
        due("town() of 12 equal I and a KIND", -3, equal.town());
        SomeAreNoneIs most = court(lines("Iab@0", 12), lines("Oac@0", 4));
        most.sheet(2, 12, 1, 0);
        due("town() of 28", -3, most.town());
        idleCall("town() of 13", () -> {
            SomeAreNoneIs y = court("Iaa@0");
            y.sheet(2, 12, 1, 0);
            y.judge(0, 1, 2);
            return y;
        }, -3, y -> y.town());
    }

    // ---- promise 31

    @Says(promise = 31, words = "The least TOWN that HOLDS, and of which a SAYING is false: likewise")
    static void p31TheLeastTownOfWhichItIsFalse() {
        SomeAreNoneIs none = new SomeAreNoneIs();
        none.judge(0, 0, 0);
        due("refute(Iaa): nobody", 0, none.refute(c("Iaa")));
        dueRow("refute(Iaa)", none);
        due("refute(O-l-l): nobody", 0, none.refute(LAST_CODE));
        due("refute(Aab)", 1, none.refute(c("Aab")));
        dueRow("refute(Aab)", none, 1);
        due("refute(Ell)", 1, none.refute(c("Ell")));
        dueRow("refute(Ell)", none, 2048);
        due("refute(E-l-l)", 1, none.refute(c("E-l-l")));
        dueRow("refute(E-l-l): who is of nothing", none, 0);
        SomeAreNoneIs x = court("Aab@0;Iac@1");
        due("refute(Aba)", 2, x.refute(c("Aba")));
        dueRow("refute(Aba)", x, s("b"), s("abc"));
        due("refute(Ikk)", 1, x.refute(c("Ikk")));
        dueRow("refute(Ikk)", x, s("abc"));
        dueRowAlone("refute(Iak)", 1, y -> y.refute(c("Iak")), s("abcl"));
    }

    @Says(promise = 31, words = "(its contrary counts among the 12, if it is I or O).")
    static void p31ItsContraryCountsIfItIsIOrO() {
        SomeAreNoneIs x = court("Akk@0");
        x.sheet(2, 11, 1, 0);
        due("refute(Akl) of 11 and O", 1, x.refute(c("Akl")));
        dueRow("refute(Akl) of 11 and O", x, 2047);
        due("refute(Ell) of 11 and I", 1, x.refute(c("Ell")));
        dueRow("refute(Ell) of 11 and I", x, 4095);
        told(x, "Iab@0");
        due("refute(Akl) of 12 and O", -3, x.refute(c("Akl")));
        due("refute(Ell) of 12 and I", -3, x.refute(c("Ell")));
        dueRow("refute() of -3", x, 4095);
        due("refute(Ill) of 12 and E", 1, x.refute(c("Ill")));
        dueRow("refute(Ill) of 12 and E", x, 2047);
        due("refute(Okl) of 12 and A", 1, x.refute(c("Okl")));
        dueRow("refute(Okl) of 12 and A", x, 4095);
        told(x, "Iac@0");
        due("refute(Ill) of 13 and E", -3, x.refute(c("Ill")));
        due("refute(Okl) of 13 and A", -3, x.refute(c("Okl")));
    }

    @Says(promise = 31, words = "-2: none (it FOLLOWS); -3; NONE: none such.")
    static void p31ItFollowsOrIsTooMuchOrNoneSuch() {
        idleCall("refute(Aab): it FOLLOWS", Bench::busy, -2, x -> x.refute(c("Aab")));
        idleCall("refute(): no TOWN HOLDS", () -> court("Oaa@0"), -2, x -> x.refute(c("Akl")));
        SomeAreNoneIs x = court("Iab@0;Aac@1");
        x.sheet(2, 12, 1, 0);
        due("refute(Iac) of 13: it FOLLOWS", -2, x.refute(c("Iac")));
        due("refute(Aac) of 13: it FOLLOWS", -2, x.refute(c("Aac")));
        due("refute(Aca) of 13", -3, x.refute(c("Aca")));
        due("refute(Ibd) of 13", -3, x.refute(c("Ibd")));
        dueOfCodes("refute", SomeAreNoneIs::new, -2, 0, (y, code) -> y.refute(code));
        for (int code : new int[] {-1, 2304}) {
            refused("refute(" + code + ") of 13", () -> court("Oaa@0"), -1, y -> y.refute(code));
        }
    }

    // ---- promise 32

    @Says(promise = 32, words = {"Whether a TOWN told as three SORTS (4096: nobody) HOLDS: 1, 0; "
        + "the ROW: SAYINGS (bits) that are false of it, KINDS that LIVE and are not in it."})
    static void p32WhetherATownOfThreeHolds() {
        SomeAreNoneIs none = new SomeAreNoneIs();
        due("judge(nobody) of none", 1, none.judge(NOBODY, NOBODY, NOBODY));
        dueRow("judge(nobody) of none", none, 0, 0);
        due("judge(0, 4095, 4096) of none", 1, none.judge(0, 4095, NOBODY));
        SomeAreNoneIs x = court("Aab@0;Eac@1;I-a-l@2;Oll@3;Iad@4");
        x.mark(3, 1, true);
        int[][] towns = {{s("abd"), 0, NOBODY}, {NOBODY, s("abd"), 0}, {0, NOBODY, s("abd")}, {0, 0, s("abd")}};
        for (int[] town : towns) {
            due("judge()", 1, x.judge(town[0], town[1], town[2]));
            dueRow("judge()", x, 0, 0);
        }
        due("judge(nobody)", 0, x.judge(NOBODY, NOBODY, NOBODY));
        dueRow("judge(nobody): A and E are true", x, 4 + 16, 0);
        due("judge(abc)", 0, x.judge(s("abc"), NOBODY, NOBODY));
        dueRow("judge(abc)", x, 2 + 4 + 16, 0);
        due("judge(l): it is no a, but l", 0, x.judge(s("l"), NOBODY, s("a")));
        dueRow("judge(l; a)", x, 1 + 4 + 16, 0);
        x.lives(0, true);
        x.lives(11, true);
        due("judge(abd; nothing), and l lives", 0, x.judge(s("abd"), 0, NOBODY));
        dueRow("judge(abd; nothing)", x, 0, 2048);
        due("judge(abd; nothing; l)", 1, x.judge(s("abd"), 0, s("l")));
        dueRow("judge(abd; nothing; l)", x, 0, 0);
        due("judge(nobody), two live", 0, x.judge(NOBODY, NOBODY, NOBODY));
        dueRow("judge(nobody)", x, 4 + 16, 2049);
        dueRowAlone("judge(all KINDS)", 0, y -> y.judge(4095, NOBODY, NOBODY), 8, 0);
    }

    @Says(promise = 32, words = "the ROW: SAYINGS (bits) that are false of it")
    static void p32SixteenThatAreFalse() {
        SomeAreNoneIs x = court(lines("Iab@0", 12), lines("Oab@0", 4));
        x.sheet(2, 12, 1, 0);
        due("judge(nobody)", 0, x.judge(NOBODY, NOBODY, NOBODY));
        dueRow("judge(nobody)", x, 65535, 4095);
        for (int i = 0; i < 16; i++) {
            x.mark(i, 1, true);
        }
        due("judge(nobody), all WITHDRAWN", 0, x.judge(NOBODY, NOBODY, NOBODY));
        dueRow("judge(nobody), all WITHDRAWN", x, 0, 4095);
        due("judge(all KINDS), all WITHDRAWN", 1, x.judge(4095, NOBODY, NOBODY));
    }

    @Says(promise = 32, words = "NONE: none such.")
    static void p32NoSuchSorts() {
        for (int sort : new int[] {0, 4095, 4096}) {
            due("judge(" + sort + ", ..) of none", 1, new SomeAreNoneIs().judge(sort, NOBODY, NOBODY));
            due("judge(.., " + sort + ", ..) of none", 1, new SomeAreNoneIs().judge(NOBODY, sort, NOBODY));
            due("judge(.., .., " + sort + ") of none", 1, new SomeAreNoneIs().judge(NOBODY, NOBODY, sort));
        }
        for (int sort : new int[] {-1, 4097, 4098, 8192, MIN, MAX}) {
            refused("judge(" + sort + ", 0, 0)", x -> x.judge(sort, 0, 0));
            refused("judge(0, " + sort + ", 0)", x -> x.judge(0, sort, 0));
            refused("judge(0, 0, " + sort + ")", x -> x.judge(0, 0, sort));
        }
    }

    public static void main(String[] args) {
        run(TownSentences.class);
    }
}
