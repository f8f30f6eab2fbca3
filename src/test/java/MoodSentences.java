/** Moods: promises 33 to 41. */
public final class MoodSentences extends Bench {
    // ---- promise 33

    private static final int S = 1;
    private static final int M = 2;
    private static final int P = 4;

    /** Whether a FORM of two of s, m, p is true of a town of these eight sorts (bits 0 .. 7). */
    private static boolean isTrue(int form, int x, int y, int town) {
        boolean someAre = false;
        boolean someAreNot = false;
        for (int sort = 0; sort < 8; sort++) {
            if ((town >> sort & 1) != 0 && (sort & x) != 0) {
                someAre |= (sort & y) != 0;
                someAreNot |= (sort & y) == 0;
            }
        }
        return form == 0 ? !someAreNot : form == 1 ? !someAre : form == 2 ? someAre : someAreNot;
    }

    private static boolean isPremiseTrue(int form, int one, int other, boolean turned, int town) {
        return turned ? isTrue(form, other, one, town) : isTrue(form, one, other, town);
    }

    /** Whether a mood holds of all towns in which those told as bits are not empty. */
    private static boolean holdsWith(int alive, int[] mood) {
        for (int town = 0; town < 256; town++) {
            boolean all = true;
            for (int term = 1; term <= 4; term *= 2) {
                all &= (alive & term) == 0 || isTrue(2, term, term, town);
            }
            boolean premises = isPremiseTrue(mood[0], M, P, mood[3] % 2 == 0, town) && isPremiseTrue(mood[1], S, M, mood[3] > 2, town);
            if (all && premises && !isTrue(mood[2], S, P, town)) {
                return false;
            }
        }
        return true;
    }

    /** The fewest that must not be empty, of as few the least; -1: the mood never holds. */
    private static int fewestAlive(int[] mood) {
        for (int size = 0; size <= 3; size++) {
            for (int alive = 0; alive < 8; alive++) {
                if (Integer.bitCount(alive) == size && holdsWith(alive, mood)) {
                    return alive;
                }
            }
        }
        return -1;
    }

    @Says(promise = 33, words = {"A mood of three FORMS and a FIGURE (1 .. 4): 2: it holds of all TOWNS, 1: if some of s, m, p are not empty, 0: not; "
        + "the ROW: for 1 the fewest that must not be (bits: 1 s, 2 m, 4 p; of as few the least);"})
    static void p33AllMoods() {
        SomeAreNoneIs x = new SomeAreNoneIs();
        int asked = 0;
        for (int i = 0; i < 256; i++) {
            int[] mood = {i >> 6, i >> 4 & 3, i >> 2 & 3, 1 + (i & 3)};
            String call = "mood(" + mood[0] + ", " + mood[1] + ", " + mood[2] + ", " + mood[3] + ")";
            int alive = fewestAlive(mood);
            if (asked % 60 == 0) {
                x = new SomeAreNoneIs();
            }
            asked++;
            x.judge(0, 0, 0);
            due(call, alive < 0 ? 0 : alive == 0 ? 2 : 1, x.mood(mood[0], mood[1], mood[2], mood[3]));
            if (alive == 0) {
                dueRow(call, x);
            } else if (alive > 0) {
                dueRow(call, x, alive);
            } else {
                due(call + ", numbers of the ROW", 1, x.count(6));
            }
        }
        dueRowAlone("mood(AAI, 1)", 1, y -> y.mood(0, 0, 2, 1), 1);
    }

    @Says(promise = 33, words = "For 2 the ROW is empty.")
    static void p33For2TheRowIsEmpty() {
        SomeAreNoneIs x = new SomeAreNoneIs();
        x.judge(0, 0, 0);
        due("mood(AAA, 1)", 2, x.mood(0, 0, 0, 1));
        dueRow("mood(AAA, 1)", x);
        x.mood(0, 0, 2, 1);
        dueRow("mood(AAI, 1): 1", x, 1);
        due("mood(EIO, 4)", 2, x.mood(1, 2, 3, 4));
        dueRow("mood(EIO, 4)", x);
        x.mood(0, 0, 0, 2);
        dueRow("mood(AAA, 2): 0", x, 1);
        dueRowAlone("mood(AAA, 1)", 2, y -> y.mood(0, 0, 0, 1));
    }

    private static boolean isOfAll(int form, boolean second) {
        return second ? form == 1 || form == 3 : form == 0 || form == 1;
    }

    /** The first rule that is broken, as the document tells them. */
    private static int broken(int[] mood) {
        boolean pIsFirst = mood[3] % 2 == 0;
        boolean sIsSecond = mood[3] > 2;
        if (!isOfAll(mood[0], pIsFirst) && !isOfAll(mood[1], !sIsSecond)) {
            return 1;
        }
        if (isOfAll(mood[2], true) && !isOfAll(mood[0], !pIsFirst)) {
            return 2;
        }
        if (isOfAll(mood[2], false) && !isOfAll(mood[1], sIsSecond)) {
            return 3;
        }
        int denying = mood[0] % 2 + mood[1] % 2;
        return denying == 2 ? 4 : denying != mood[2] % 2 ? 5 : 6;
    }

    @Says(promise = 33, words = {"for 0 the first that is broken: 1 m is told of all in neither premise, 2 p is told of all in the conclusion and not in its premise, "
        + "3 s likewise, 4 both premises deny, 5 one premise denies and the conclusion does not, or none does and it does, 6 (else). "
        + "Of all is told: x in A and E, y in E and O."})
    static void p33TheFirstThatIsBroken() {
        int[] seen = new int[7];
        for (int i = 0; i < 256; i++) {
            int[] mood = {i >> 6, i >> 4 & 3, i >> 2 & 3, 1 + (i & 3)};
            if (fewestAlive(mood) < 0) {
                SomeAreNoneIs x = new SomeAreNoneIs();
                String call = "mood(" + mood[0] + ", " + mood[1] + ", " + mood[2] + ", " + mood[3] + ")";
                due(call, 0, x.mood(mood[0], mood[1], mood[2], mood[3]));
                dueRow(call, x, broken(mood));
                seen[broken(mood)]++;
            }
        }
        for (int rule = 1; rule <= 5; rule++) {
            due("rule " + rule + " is broken by some", true, seen[rule] > 0);
        }
        dueRowAlone("mood(AAA, 2)", 0, y -> y.mood(0, 0, 0, 2), 1);
    }

    @Says(promise = 33, words = "NONE: others.")
    static void p33OtherFormsAndFigures() {
        due("mood(0, 0, 0, 1)", 2, new SomeAreNoneIs().mood(0, 0, 0, 1));
        due("mood(3, 3, 3, 4)", 0, new SomeAreNoneIs().mood(3, 3, 3, 4));
        for (int form : new int[] {-1, 4, MIN, MAX}) {
            refused("mood(" + form + ", 0, 0, 1)", x -> x.mood(form, 0, 0, 1));
            refused("mood(0, " + form + ", 0, 1)", x -> x.mood(0, form, 0, 1));
            refused("mood(0, 0, " + form + ", 1)", x -> x.mood(0, 0, form, 1));
        }
        for (int figure : new int[] {-1, 0, 5, MIN, MAX}) {
            refused("mood(0, 0, 0, " + figure + ")", x -> x.mood(0, 0, 0, figure));
        }
    }

    // ---- promise 34

    @Says(promise = 34, words = "Of the 64 moods of a FIGURE (1 .. 4) how many hold of all TOWNS (mood() is 2); the ROW: of how many mood() is 1.")
    static void p34HowManyMoodsOfAFigureHold() {
        for (int figure = 1; figure <= 4; figure++) {
            int always = 0;
            int sometimes = 0;
            for (int i = 0; i < 64; i++) {
                int alive = fewestAlive(new int[] {i >> 4, i >> 2 & 3, i & 3, figure});
                always += alive == 0 ? 1 : 0;
                sometimes += alive > 0 ? 1 : 0;
            }
            int number = figure;
            dueRowAlone("figure(" + figure + ")", always, x -> x.figure(number), sometimes);
        }
    }

    @Says(promise = 34, words = "NONE: another FIGURE.")
    static void p34AnotherFigure() {
        for (int figure : new int[] {0, 5, -1, MIN, MAX}) {
            refused("figure(" + figure + ")", x -> x.figure(figure));
        }
    }

    // ---- promise 35

    @Says(promise = 35, words = "FORMS (bits) of two TERMS that FOLLOW; the ROW: how many SORTS (as sorts()) are of x and y, of x and not of y.")
    static void p35FormsThatFollow() {
        SomeAreNoneIs none = new SomeAreNoneIs();
        due("forms(a, a) of none", 1, none.forms(t("a"), t("a")));
        dueRow("forms(a, a) of none", none, 2048, 0);
        due("forms(a, -a) of none", 2, none.forms(t("a"), t("-a")));
        dueRow("forms(a, -a) of none", none, 0, 2048);
        due("forms(a, l) of none", 0, none.forms(t("a"), t("l")));
        dueRow("forms(a, l) of none", none, 1024, 1024);
        SomeAreNoneIs x = court("Aab@0;Ekl@1;Oac@2");
        due("forms(a, b)", 1 + 4, x.forms(t("a"), t("b")));
        dueRow("forms(a, b)", x, 768, 0);
        due("forms(k, l)", 2, x.forms(t("k"), t("l")));
        dueRow("forms(k, l)", x, 0, 768);
        x.lives(10, true);
        due("forms(k, l), and k lives", 2 + 8, x.forms(t("k"), t("l")));
        dueRow("forms(k, l): as sorts()", x, 0, 768);
        due("forms(a, c)", 8, x.forms(t("a"), t("c")));
        dueRow("forms(a, c)", x, 384, 384);
        x.mark(2, 1, true);
        due("forms(a, c), one WITHDRAWN", 0, x.forms(t("a"), t("c")));
        SomeAreNoneIs nobody = court("Ell@0;E-l-l@0");
        due("forms() of nobody", 3, nobody.forms(t("a"), t("b")));
        dueRow("forms() of nobody", nobody, 0, 0);
        nobody.lives(0, true);
        due("forms(): no TOWN HOLDS", 15, nobody.forms(t("a"), t("b")));
        dueRow("forms(): no TOWN HOLDS", nobody, 0, 0);
        dueRowAlone("forms(a, b)", 5, y -> y.forms(t("a"), t("b")), 512, 0);
    }

    @Says(promise = 35, words = "NONE: none such.")
    static void p35NoSuchTermsOfForms() {
        dueOfTerms("forms(.., 0)", SomeAreNoneIs::new, 1, 0, (x, term) -> x.forms(term, 0));
        dueOfTerms("forms(23, ..)", SomeAreNoneIs::new, 0, 1, (x, term) -> x.forms(23, term));
        refused("forms(24, 24)", x -> x.forms(24, 24));
        refused("forms(-1, -1)", x -> x.forms(-1, -1));
    }

    // ---- promise 36

    @Says(promise = 36, words = "MOODS told as bits become the ALLOWED ones: those before.")
    static void p36MoodsBecomeTheAllowedOnes() {
        SomeAreNoneIs x = court("Aab@0");
        due("allow(0)", ALL_MOODS, x.allow(0));
        due("count(3)", 0, x.count(3));
        due("proof(Ea-b) by none", -2, x.proof(c("Ea-b")));
        due("allow(1 << 20)", 0, x.allow(1 << 20));
        due("proof(Ea-b) by 20", 1, x.proof(c("Ea-b")));
        due("allow(1 << 21)", 1 << 20, x.allow(1 << 21));
        due("proof(Ea-b) by 21", -2, x.proof(c("Ea-b")));
        due("allow(ALL)", 1 << 21, x.allow(ALL_MOODS));
        due("allow(ALL) again", ALL_MOODS, x.allow(ALL_MOODS));
        due("count(3)", ALL_MOODS, x.count(3));
    }

    @Says(promise = 36, words = "Refused: others (0 .. 4194303).")
    static void p36OtherBitsAreRefused() {
        for (int bits : new int[] {-1, 4194304, 4194305, 1 << 30, MIN, MAX}) {
            refused("allow(" + bits + ")", x -> x.allow(bits));
        }
        due("allow(4194303)", ALL_MOODS - 16, busy().allow(4194303));
        due("allow(0)", ALL_MOODS - 16, busy().allow(0));
    }

    // ---- promise 37

    @Says(promise = 37, words = {"What two SAYINGS prove by a MOOD 0 .. 18, or the first alone by 19 .. 21 (other: NONE), "
        + "ALLOWED or not (KINDS have to LIVE as told): the CODE."})
    static void p37WhatTwoSayingsProve() {
        SomeAreNoneIs x = new SomeAreNoneIs();
        due("step(0, Abc, Aab)", c("Aac"), x.step(0, c("Abc"), c("Aab")));
        due("step(0, A-b-c, Aa-b)", c("Aa-c"), x.step(0, c("A-b-c"), c("Aa-b")));
        due("step(0, Aaa, Aaa)", c("Aaa"), x.step(0, 0, 0));
        due("step(19, Eab)", c("Eba"), x.step(19, c("Eab"), -1));
        due("step(20, O-l-l)", c("I-ll"), x.step(20, LAST_CODE, -1));
        due("step(18, Acb, Aba): c does not live", -2, x.step(18, c("Acb"), c("Aba")));
        due("step(21, Aab): a does not live", -2, x.step(21, c("Aab"), -1));
        x.lives(2, true);
        x.lives(0, true);
        due("step(18, Acb, Aba): c lives", c("Iac"), x.step(18, c("Acb"), c("Aba")));
        due("step(21, Aab): a lives", c("Iab"), x.step(21, c("Aab"), -1));
        x.allow(0);
        due("step(18) if it is not ALLOWED", c("Iac"), x.step(18, c("Acb"), c("Aba")));
        due("step(0) if it is not ALLOWED", c("Aac"), x.step(0, c("Abc"), c("Aab")));
        due("step(21) if it is not ALLOWED", c("Iab"), x.step(21, c("Aab"), -1));
        due("step(0) of what is not told", c("Akl"), x.step(0, c("Ajl"), c("Akj")));
        idleCall("step(0, Abc, Aab)", Bench::busy, c("Aac"), y -> y.step(0, c("Abc"), c("Aab")));
    }

    @Says(promise = 37, words = "-2: nothing;")
    static void p37WhatProvesNothing() {
        SomeAreNoneIs x = new SomeAreNoneIs();
        x.sheet(2, 12, 1, 0);
        due("step(0, Aab, Abc): the other order", -2, x.step(0, c("Aab"), c("Abc")));
        due("step(0, Abc, A-a-b): another MIDDLE", -2, x.step(0, c("Abc"), c("A-a-b")));
        due("step(0, Abc, Iab): another FORM", -2, x.step(0, c("Abc"), c("Iab")));
        due("step(1, Abc, Aab): another FORM", -2, x.step(1, c("Abc"), c("Aab")));
        due("step(19, Aab)", -2, x.step(19, c("Aab"), -1));
        due("step(21, O-l-l)", -2, x.step(21, LAST_CODE, -1));
        due("step(15, A-bc, A-ba): no KIND", -2, x.step(15, c("A-bc"), c("A-ba")));
        idleCall("step(0, Aab, Abc)", Bench::busy, -2, y -> y.step(0, c("Aab"), c("Abc")));
    }

    @Says(promise = 37, words = "NONE: none such.")
    static void p37NoSuchMoodOrCode() {
        for (int mood : new int[] {-1, 22, 23, 32, MIN, MAX}) {
            refused("step(" + mood + ", 0, 0)", x -> x.step(mood, 0, 0));
            refused("step(" + mood + ", 0, -1)", x -> x.step(mood, 0, -1));
        }
        for (int mood = 0; mood < 22; mood++) {
            int number = mood;
            boolean alone = mood > 18;
            for (int code : new int[] {-1, 2304, MIN, MAX}) {
                refused("step(" + mood + ", " + code + ")", x -> x.step(number, code, alone ? -1 : 0));
            }
            due("step(" + mood + ", 2303) is no NONE", true, busy().step(mood, LAST_CODE, alone ? -1 : LAST_CODE) != -1);
            due("step(" + mood + ", 0) is no NONE", true, busy().step(mood, 0, alone ? -1 : 0) != -1);
            int[] others = alone ? new int[] {0, 1, 2303, 2304, -2, MIN, MAX} : new int[] {-1, -2, 2304, MIN, MAX};
            for (int other : others) {
                refused("step(" + mood + ", 0, " + other + ")", x -> x.step(number, 0, other));
            }
        }
    }

    // ---- promise 38

    @Says(promise = 38, words = "The shortest proof of a SAYING from SAYINGS that are not WITHDRAWN by ALLOWED MOODS: how many steps")
    static void p38TheShortestProof() {
        SomeAreNoneIs x = court("Aab@0;Abc@1;Acd@2;Aac@3");
        due("proof(Aad)", 1, x.proof(c("Aad")));
        dueRow("proof(Aad)", x, 0, c("Acd"), c("Aac"));
        x.mark(3, 1, true);
        due("proof(Aad), one WITHDRAWN", 2, x.proof(c("Aad")));
        dueRow("proof(Aad)", x, 0, c("Abd"), c("Aab"));
        x.mark(1, 0, true);
        due("proof(Aad), one DOUBTED", 2, x.proof(c("Aad")));
        x.allow(ALL_MOODS - 1);
        due("proof(Aad) without mood 0", 4, x.proof(c("Aad")));
        x.allow(1);
        due("proof(Aad) by mood 0 alone", 2, x.proof(c("Aad")));
        due("proof(Ea-d) by mood 0 alone", -2, x.proof(c("Ea-d")));
        SomeAreNoneIs all = court("Aab@0;Abc@1;Acd@2;Ade@3;Aef@4;Afg@5;Agh@6;Ahi@7;Aij@0;Ajk@1;Akl@2");
        due("proof(Aal) of eleven", 10, all.proof(c("Aal")));
        dueRow("proof(Aal): the least row", all, 0, c("Abl"), c("Aab"));
        dueRowAlone("proof(Aac)", 1, y -> y.proof(c("Aac")), 0, c("Abc"), c("Aab"));
    }

    @Says(promise = 38, words = "from SAYINGS that are not WITHDRAWN by ALLOWED MOODS: how many steps")
    static void p38WhatWasProvedBeforeDoesNotCount() {
        SomeAreNoneIs x = court("Aab@0;Abc@1");
        due("proof(Aac)", 1, x.proof(c("Aac")));
        x.mark(0, 1, true);
        due("proof(Aac), one WITHDRAWN", -2, x.proof(c("Aac")));
        x.mark(0, 1, false);
        due("proof(Aac), no more", 1, x.proof(c("Aac")));
        dueRow("proof(Aac), no more", x, 0, c("Abc"), c("Aab"));
        due("proof(Iab): nobody lives", -2, x.proof(c("Iab")));
        x.lives(0, true);
        due("proof(Iab): a lives", 1, x.proof(c("Iab")));
        x.lives(0, false);
        due("proof(Iab): a lives no more", -2, x.proof(c("Iab")));
        x.allow(0);
        due("proof(Aac): none is ALLOWED", -2, x.proof(c("Aac")));
        x.allow(1);
        due("proof(Aac): mood 0 is ALLOWED", 1, x.proof(c("Aac")));
        told(x, "Aac@2");
        due("proof(Aac): told", 0, x.proof(c("Aac")));
    }

    @Says(promise = 38, words = "how many steps")
    static void p38TheFirstCodeAndTheLastAreProved() {
        SomeAreNoneIs first = court("Ea-a@0");
        due("proof(Aaa)", 1, first.proof(FIRST_CODE));
        dueRow("proof(Aaa)", first, 20, c("Ea-a"), -1);
        SomeAreNoneIs from = court("Aaa@0");
        due("proof(Ea-a)", 1, from.proof(c("Ea-a")));
        dueRow("proof(Ea-a)", from, 20, FIRST_CODE, -1);
        SomeAreNoneIs last = court("I-ll@0");
        due("proof(O-l-l)", 1, last.proof(LAST_CODE));
        dueRow("proof(O-l-l)", last, 20, c("I-ll"), -1);
        SomeAreNoneIs fromLast = court("O-l-l@0");
        due("proof(I-ll)", 1, fromLast.proof(c("I-ll")));
        dueRow("proof(I-ll)", fromLast, 20, LAST_CODE, -1);
    }

    @Says(promise = 38, words = "(each that is used twice is counted twice;")
    static void p38WhatIsUsedTwiceIsCountedTwice() {
        SomeAreNoneIs x = court("Eb-a@0");
        x.lives(1, true);
        x.allow(1 << 20 | 1 << 15);
        due("proof(Aba)", 1, x.proof(c("Aba")));
        due("proof(Iaa): Aba is used twice", 3, x.proof(c("Iaa")));
        dueRow("proof(Iaa)", x, 15, c("Aba"), c("Aba"));
    }

    @Says(promise = 38, words = {"0: it is told);", "NONE, if 0),"})
    static void p38WhatIsToldTakesNoStep() {
        SomeAreNoneIs x = court("Aaa@0;O-l-l@0");
        due("proof(Aaa)", 0, x.proof(0));
        dueRow("proof(Aaa)", x, -1, -1, -1);
        due("proof(O-l-l)", 0, x.proof(LAST_CODE));
        dueRow("proof(O-l-l)", x, -1, -1, -1);
        x.allow(0);
        due("proof(Aaa) by no MOOD", 0, x.proof(0));
        x.mark(0, 1, true);
        due("proof(Aaa), WITHDRAWN", -2, x.proof(0));
    }

    @Says(promise = 38, words = {"the ROW: the MOOD of the last step (of equal ones the first;", "CODES of its premises (the second NONE for one of one premise;"})
    static void p38OfEqualMoodsTheFirst() {
        SomeAreNoneIs x = court("Eab@0;Aaa@1;Abb@2");
        due("proof(Eba)", 1, x.proof(c("Eba")));
        dueRow("proof(Eba): by 4, 5 .. or 19", x, 4, c("Eab"), c("Abb"));
        x.allow(ALL_MOODS - (1 << 4));
        x.proof(c("Eba"));
        dueRow("proof(Eba) without 4", x, 12, c("Aaa"), c("Eab"));
        x.allow(ALL_MOODS - (1 << 4) - (1 << 12));
        x.proof(c("Eba"));
        dueRow("proof(Eba) without 4 and 12", x, 19, c("Eab"), -1);
        SomeAreNoneIs last = court("Aab@0");
        last.lives(0, true);
        due("proof(Iab)", 1, last.proof(c("Iab")));
        dueRow("proof(Iab): by 21", last, 21, c("Aab"), -1);
        SomeAreNoneIs turned = court("Aab@0;Ea-b@1");
        turned.mark(0, 1, true);
        due("proof(Aab)", 1, turned.proof(c("Aab")));
        dueRow("proof(Aab): by 20", turned, 20, c("Ea-b"), -1);
    }

    @Says(promise = 38, words = "of equal ones the least row).")
    static void p38OfEqualPremisesTheLeastRow() {
        SomeAreNoneIs x = court("Adc@0;Aad@1;Abc@2;Aab@3");
        due("proof(Aac)", 1, x.proof(c("Aac")));
        dueRow("proof(Aac): by b, which is less than d", x, 0, c("Abc"), c("Aab"));
        x.mark(2, 1, true);
        x.proof(c("Aac"));
        dueRow("proof(Aac): by d", x, 0, c("Adc"), c("Aad"));
    }

    @Says(promise = 38, words = "-2: there is none; NONE: none such.")
    static void p38ThereIsNoProof() {
        idleCall("proof(Aba)", Bench::busy, -2, x -> x.proof(c("Aba")));
        idleCall("proof(Aaa) of none, though it FOLLOWS", SomeAreNoneIs::new, -2, x -> x.proof(0));
        dueOfCodes("proof", SomeAreNoneIs::new, -2, -2, (x, code) -> x.proof(code));
        dueOfCodes("proof", () -> court("Aaa@0;O-l-l@0"), 0, 0, (x, code) -> x.proof(code));
        SomeAreNoneIs y = court("Iab@0;Eab@1");
        due("proof(Akl): it FOLLOWS from what can't be", -2, y.proof(c("Akl")));
        due("follows(Akl)", 2, y.follows(c("Akl")));
    }

    // ---- promise 39

    @Says(promise = 39, words = {"SAYINGS (bits) on which that proof rests (its premises proved as proof() tells, and so on;",
        "the ROW: MOODS (bits) it takes, how deep it is (0: told; else 1 more than the deeper premise)."})
    static void p39WhatItRestsOn() {
        SomeAreNoneIs x = court("Aab@0;Abc@1;Acd@2;Ecd@3");
        due("rests(Aab): told", 1, x.rests(c("Aab")));
        dueRow("rests(Aab): told", x, 0, 0);
        due("rests(Aac)", 3, x.rests(c("Aac")));
        dueRow("rests(Aac)", x, 1, 1);
        due("rests(Aad)", 7, x.rests(c("Aad")));
        dueRow("rests(Aad)", x, 1, 2);
        due("rests(Edc)", 8, x.rests(c("Edc")));
        dueRow("rests(Edc)", x, 1 << 19, 1);
        SomeAreNoneIs all = court("Aab@0;Abc@1;Acd@2;Ade@3;Aef@4;Afg@5;Agh@6;Ahi@7;Aij@0;Ajk@1;Akl@2");
        due("rests(Aal)", 2047, all.rests(c("Aal")));
        dueRow("rests(Aal): Aab with Abl, and so on", all, 1, 10);
        SomeAreNoneIs twice = court("Eb-a@0");
        twice.lives(1, true);
        twice.allow(1 << 20 | 1 << 15);
        due("rests(Iaa): Aba is used twice", 1, twice.rests(c("Iaa")));
        dueRow("rests(Iaa)", twice, 1 << 20 | 1 << 15, 2);
        dueRowAlone("rests(Aac)", 3, y -> y.rests(c("Aac")), 1, 1);
    }

    @Says(promise = 39, words = "how deep it is (0: told; else 1 more than the deeper premise).")
    static void p39OneMoreThanTheDeeperPremise() {
        String[][] cases = {{"Abc@0;Ea-b@1", "the second"}, {"Eb-c@0;Aab@1", "the first"}, {"Eb-c@0;Ea-b@1", "neither"}};
        for (String[] one : cases) {
            SomeAreNoneIs x = court(one[0]);
            due("rests(Aac)", 3, x.rests(c("Aac")));
            dueRow("rests(Aac), deeper: " + one[1], x, 1 | 1 << 20, 2);
        }
    }

    @Says(promise = 39, words = "of SAYINGS with one CODE the first not WITHDRAWN);")
    static void p39OfOneCodeTheFirstNotWithdrawn() {
        SomeAreNoneIs x = court(lines("Aab@0", 12), lines("Aab@0", 4));
        for (int i = 0; i < 16; i++) {
            due("rests(Aab), " + i + " WITHDRAWN", 1 << i, x.rests(c("Aab")));
            due("rests(Ea-b), " + i + " WITHDRAWN", 1 << i, x.rests(c("Ea-b")));
            x.mark(i, 1, true);
        }
        due("rests(Aab), all WITHDRAWN", -2, x.rests(c("Aab")));
        x.mark(9, 1, false);
        due("rests(Aab), not 9", 512, x.rests(c("Aab")));
    }

    @Says(promise = 39, words = "-2, NONE as proof().")
    static void p39RestsOnNothing() {
        idleCall("rests(Aba)", Bench::busy, -2, x -> x.rests(c("Aba")));
        dueOfCodes("rests", SomeAreNoneIs::new, -2, -2, (x, code) -> x.rests(code));
        dueOfCodes("rests", () -> court("Aaa@0;O-l-l@0"), 1, 2, (x, code) -> x.rests(code));
    }

    // ---- promise 40

    @Says(promise = 40, words = "How many SAYINGS (CODES) can be proved so; the ROW: the most steps that one of them takes.")
    static void p40HowManyCanBeProved() {
        SomeAreNoneIs none = new SomeAreNoneIs();
        due("proved() of none", 0, none.proved());
        dueRow("proved() of none", none, 0);
        none.sheet(2, 12, 1, 0);
        due("proved() of none, all live", 0, none.proved());
        SomeAreNoneIs x = court(lines("Aab@0", 12), lines("Abc@0", 4));
        x.allow(0);
        due("proved() by no MOOD: two CODES", 2, x.proved());
        dueRow("proved() by no MOOD", x, 0);
        x.allow(1);
        due("proved() by mood 0", 3, x.proved());
        dueRow("proved() by mood 0", x, 1);
        for (int i = 0; i < 12; i++) {
            x.mark(i, 1, true);
        }
        due("proved(), all Aab WITHDRAWN", 1, x.proved());
        dueRow("proved(), all Aab WITHDRAWN", x, 0);
        x.allow(1 << 20);
        due("proved() by 20", 2, x.proved());
        dueRow("proved() by 20", x, 1);
        for (int i = 12; i < 16; i++) {
            x.mark(i, 1, true);
        }
        due("proved(), all WITHDRAWN", 0, x.proved());
        dueRow("proved(), all WITHDRAWN", x, 0);
        SomeAreNoneIs chain = court("Aab@0;Abc@1;Acd@2;Ade@3;Aef@4;Afg@5;Agh@6;Ahi@7;Aij@0;Ajk@1;Akl@2");
        chain.allow(1);
        due("proved() of a chain of twelve", 66, chain.proved());
        dueRow("proved() of a chain of twelve", chain, 10);
    }

    @Says(promise = 40, words = "the most steps that one of them takes.")
    static void p40TheMostStepsAreThoseOfSomeProof() {
        SomeAreNoneIs x = busy();
        int codes = x.proved();
        int most = x.row(0);
        int found = 0;
        int longest = 0;
        for (int code = 0; code < 2304; code++) {
            if (code % 400 == 0) {
                x = busy();
            }
            int steps = x.proof(code);
            found += steps >= 0 ? 1 : 0;
            longest = Math.max(longest, steps);
        }
        due("proved()", found, codes);
        due("proved(), the ROW", longest, most);
        int steps = most;
        dueRowAlone("proved()", found, y -> y.proved(), steps);
    }

    // ---- promise 41

    @Says(promise = 41, words = "Of those WANTED (bits, as they were told) that FOLLOW those that can't be proved.")
    static void p41WhatFollowsAndCantBeProved() {
        idleCall("gap() of nothing", SomeAreNoneIs::new, 0, x -> x.gap());
        SomeAreNoneIs x = court("Aab@0;Abc@1");
        String[] wanted = {"Aaa", "Aac", "Aca", "All", "A-c-a", "Aab"};
        for (String saying : wanted) {
            x.want(c(saying));
        }
        due("gap(): Aaa and All follow from nothing", 1 + 8, x.gap());
        x.allow(1);
        due("gap() by mood 0", 1 + 8 + 16, x.gap());
        x.allow(0);
        due("gap() by no MOOD", 1 + 2 + 8 + 16, x.gap());
        x.mark(0, 1, true);
        due("gap(), Aab WITHDRAWN", 1 + 8, x.gap());
        x.forget();
        due("gap(), nothing is WANTED", 0, x.gap());
        SomeAreNoneIs all = court("Iab@0;Eab@1");
        for (int i = 0; i < 6; i++) {
            all.want(c("Akl"));
        }
        due("gap() of six that FOLLOW from what can't be", 63, all.gap());
        idleCall("gap()", Bench::busy, 2, y -> y.gap());
    }

    public static void main(String[] args) {
        run(MoodSentences.class);
    }
}
