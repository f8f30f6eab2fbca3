/** Terms: promises 24 to 26. */
public final class ChainSentences extends Bench {
    // ---- promise 24

    @Says(promise = 24, words = "TERMS y (bits) for which it follows that all x are y, by A and E alone")
    static void p24WhatAllXAre() {
        SomeAreNoneIs x = court("Aab@0;Ebc@1;Aal@2");
        due("all(a)", terms("a", "b", "-c", "l"), x.all(t("a")));
        due("all(c)", terms("c", "-b", "-a"), x.all(t("c")));
        due("all(-l)", terms("-l", "-a"), x.all(t("-l")));
        x.mark(0, 1, true);
        due("all(a) without Aab", terms("a", "l"), x.all(t("a")));
        x.mark(2, 0, true);
        due("all(a), one DOUBTED", terms("a", "l"), x.all(t("a")));
        idleCall("all(a)", Bench::busy, terms("a", "b", "c"), y -> y.all(t("a")));
        due("all(a): all b are c, and no a is", terms("a", "-c", "-b"), court("Eac@0;Abc@1").all(t("a")));
        due("all(-l): what is not l is no k, and j is k", terms("-l", "-k", "-j"), court("Akl@0;Ajk@1").all(t("-l")));
    }

    @Says(promise = 24, words = "by A and E alone")
    static void p24IAndOAndWhoLivesDoNotCount() {
        SomeAreNoneIs x = court("Iab@0;Eab@1;Oaa@2");
        x.sheet(2, 12, 1, 0);
        due("holds()", 0, x.holds());
        due("all(k): no TOWN HOLDS, but by I and O", terms("k"), x.all(t("k")));
        due("all(a)", terms("a", "-b"), x.all(t("a")));
        told(x, "Ell@0");
        due("all(k): nobody is l, though l lives", terms("k", "-l"), x.all(t("k")));
    }

    @Says(promise = 24, words = "(x itself; all, if nobody can be x; what everybody is).")
    static void p24XItselfAllAndWhatEverybodyIs() {
        SomeAreNoneIs none = new SomeAreNoneIs();
        for (int term = 0; term < 24; term++) {
            due("all(" + term + ") of none: x itself", 1 << term, none.all(term));
        }
        SomeAreNoneIs x = court("Aa-a@0;A-bb@1");
        due("all(a): nobody can be a", ALL_TERMS, x.all(t("a")));
        due("all(-b): nobody can be no b", ALL_TERMS, x.all(t("-b")));
        due("all(l): everybody is no a, and b", terms("l", "-a", "b"), x.all(t("l")));
        told(x, "Ab-b@2");
        for (int term = 0; term < 24; term++) {
            due("all(" + term + "): there can be nobody", ALL_TERMS, x.all(term));
        }
        SomeAreNoneIs far = court("Aab@0;Abc@1;Eac@2");
        due("all(a): nobody can be a, by three", ALL_TERMS, far.all(t("a")));
        due("all(l)", terms("l", "-a"), far.all(t("l")));
    }

    @Says(promise = 24, words = "NONE: none such.")
    static void p24NoSuchTerm() {
        dueOfTerms("all", SomeAreNoneIs::new, 1, 1 << 23, (x, term) -> x.all(term));
    }

    // ---- promise 25

    @Says(promise = 25, words = {"TERMS (bits) of which nobody can be, by A and E alone"})
    static void p25OfWhichNobodyCanBe() {
        idleCall("empty() of none", SomeAreNoneIs::new, 0, x -> x.empty());
        idleCall("empty()", Bench::busy, 0, x -> x.empty());
        due("empty() of Eaa", terms("a"), court("Eaa@0").empty());
        due("empty() of A-ll", terms("-l"), court("A-ll@0").empty());
        SomeAreNoneIs x = court("Aab@0;Abc@1;Eac@2;Oaa@3;Ikk@4;Ekk@5");
        x.lives(0, true);
        due("empty(), I, O and who lives do not count", terms("a", "k"), x.empty());
        x.mark(2, 1, true);
        due("empty(), one WITHDRAWN", terms("k"), x.empty());
    }

    @Says(promise = 25, words = "(all, if there can be nobody at all).")
    static void p25AllIfThereCanBeNobody() {
        due("empty() of Aa-a, A-aa", ALL_TERMS, court("Aa-a@0;A-aa@0").empty());
        due("empty() of Ell, E-l-l", ALL_TERMS, court("Ell@0;E-l-l@0").empty());
        SomeAreNoneIs x = court("Aab@0;A-ab@0;Abc@0;Eb-d@0;Ecd@0");
        due("empty(): all are b, b are c and d, no c is d", ALL_TERMS, x.empty());
        x.mark(4, 1, true);
        due("empty() without Ecd", terms("-b", "-c", "-d"), x.empty());
    }

    // ---- promise 26

    @Says(promise = 26, words = {"The fewest A and E", "one behind the other by which all x are y: how many; the ROW: SAYINGS, in order: of as few the least row."})
    static void p26TheFewestOneBehindTheOther() {
        SomeAreNoneIs x = court("Aab@0;Abc@1;Iac@2;Aac@3;Aac@4");
        due("chain(a, c)", 1, x.chain(t("a"), t("c")));
        dueRow("chain(a, c): the least", x, 3);
        x.mark(3, 1, true);
        x.chain(t("a"), t("c"));
        dueRow("chain(a, c), one WITHDRAWN", x, 4);
        x.mark(4, 1, true);
        due("chain(a, c) by b", 2, x.chain(t("a"), t("c")));
        dueRow("chain(a, c) by b", x, 0, 1);
        SomeAreNoneIs tie = court("Acd@0;Aac@1;Abd@2;Aab@3;Aad@4?");
        due("chain(a, d)", 1, tie.chain(t("a"), t("d")));
        dueRow("chain(a, d), DOUBTED", tie, 4);
        tie.mark(4, 1, true);
        tie.chain(t("a"), t("d"));
        dueRow("chain(a, d): 1, 0 is less than 3, 2", tie, 1, 0);
    }

    @Says(promise = 26, words = "(each as it is told, or turned round: all x are y as all that are not y are not x; no x is y as all x are not y, all y are not x)")
    static void p26AsToldOrTurnedRound() {
        String[] sayings = {"Aab@0", "A-ab@0", "Aa-b@0", "A-a-b@0", "Eab@0", "E-ab@0", "Ea-b@0", "E-a-b@0"};
        String[][] ways = {{"a", "b", "-b", "-a"}, {"-a", "b", "-b", "a"}, {"a", "-b", "b", "-a"}, {"-a", "-b", "b", "a"},
            {"a", "-b", "b", "-a"}, {"-a", "-b", "b", "a"}, {"a", "b", "-b", "-a"}, {"-a", "b", "-b", "a"}};
        for (int i = 0; i < sayings.length; i++) {
            SomeAreNoneIs x = court(sayings[i]);
            for (int from = 0; from < 4; from++) {
                for (int to = 0; to < 4; to++) {
                    boolean told = from == t(ways[i][0]) && to == t(ways[i][1]) || from == t(ways[i][2]) && to == t(ways[i][3]);
                    due("chain(" + from + ", " + to + ") of " + sayings[i], from == to ? 0 : told ? 1 : -2, x.chain(from, to));
                }
            }
        }
        for (String none : new String[] {"Iab@0", "Oab@0"}) {
            due("chain(a, b) of " + none, -2, court(none).chain(t("a"), t("b")));
            due("chain(a, -b) of " + none, -2, court(none).chain(t("a"), t("-b")));
        }
    }

    @Says(promise = 26, words = "one behind the other by which all x are y: how many; the ROW: SAYINGS, in order")
    static void p26TheLongestRow() {
        SomeAreNoneIs x = court("Aab@0;Abc@0;Acd@0;Ade@0;Aef@0;Afg@0;Agh@0;Ahi@0;Aij@0;Ajk@0;Akl@0", "Ell@0");
        due("chain(a, l)", 11, x.chain(t("a"), t("l")));
        dueRow("chain(a, l)", x, 0, 1, 2, 3, 4, 5, 6, 7, 8, 9, 10);
        due("chain(a, -a): through all 24 TERMS", 23, x.chain(t("a"), t("-a")));
        dueRow("chain(a, -a)", x, 0, 1, 2, 3, 4, 5, 6, 7, 8, 9, 10, 11, 10, 9, 8, 7, 6, 5, 4, 3, 2, 1, 0);
        due("chain(-a, a)", -2, x.chain(t("-a"), t("a")));
        dueRow("chain(-a, a) leaves the ROW", x, 0, 1, 2, 3, 4, 5, 6, 7, 8, 9, 10, 11, 10, 9, 8, 7, 6, 5, 4, 3, 2, 1, 0);
        due("chain(l, -l)", 1, x.chain(t("l"), t("-l")));
        dueRow("chain(l, -l)", x, 11);
        told(x, "Ela@0");
        due("chain(a, -a): shorter now", 12, x.chain(t("a"), t("-a")));
        dueRow("chain(a, -a)", x, 0, 1, 2, 3, 4, 5, 6, 7, 8, 9, 10, 12);
    }

    @Says(promise = 26, words = "0: x is y;")
    static void p26XIsY() {
        SomeAreNoneIs x = court("Aaa@0");
        for (int term = 0; term < 24; term++) {
            x.judge(0, 0, 0);
            due("chain(" + term + ", " + term + ")", 0, x.chain(term, term));
            dueRow("chain(" + term + ", " + term + ")", x);
        }
    }

    @Says(promise = 26, words = "-2: there is no such row;")
    static void p26ThereIsNoSuchRow() {
        idleCall("chain(l, a)", Bench::busy, -2, x -> x.chain(t("l"), t("a")));
        idleCall("chain(a, b) of none", SomeAreNoneIs::new, -2, x -> x.chain(t("a"), t("b")));
        SomeAreNoneIs x = court("Aa-a@0;A-ll@0");
        due("all(a)", ALL_TERMS, x.all(t("a")));
        due("chain(a, b): nobody is a, but there is no row", -2, x.chain(t("a"), t("b")));
        due("chain(b, l): everybody is l, but there is no row", -2, x.chain(t("b"), t("l")));
        due("chain(-l, l)", 1, x.chain(t("-l"), t("l")));
        dueRow("chain(-l, l)", x, 1);
    }

    @Says(promise = 26, words = "NONE: none such.")
    static void p26NoSuchTerms() {
        dueOfTerms("chain(.., 0)", SomeAreNoneIs::new, 0, -2, (x, term) -> x.chain(term, 0));
        dueOfTerms("chain(23, ..)", SomeAreNoneIs::new, -2, 0, (x, term) -> x.chain(23, term));
        refused("chain(24, 24)", x -> x.chain(24, 24));
        refused("chain(-1, -1)", x -> x.chain(-1, -1));
    }

    public static void main(String[] args) {
        run(ChainSentences.class);
    }
}
