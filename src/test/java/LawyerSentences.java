/** Lawyers: promises 42 to 46. */
public final class LawyerSentences extends Bench {
    private static final String ELEVEN = lines("0:0Eba", 11);

    /** So many STEPS, each of which turns saying 0, Eab. */
    private static SomeAreNoneIs steps(int n) {
        SomeAreNoneIs x = court("Eab@0;Aab@1");
        int left = n;
        while (left > 0) {
            int some = Math.min(left, 11);
            if (plead(x, lines("0:0Eba", some)) != some) {
                fail("plead() of " + some + " STEPS was refused");
            }
            left -= some;
        }
        return x;
    }

    /** What plead() answers behind some STEPS; if it is refused, that nothing else has changed. */
    private static void duePlea(Made made, long answer, String text) {
        if (answer < 0) {
            refusedText("plead() of " + text, made, answer, text, x -> x.plead());
        } else {
            SomeAreNoneIs x = made.make();
            int before = x.count(4);
            due("plead() of " + text, answer, plead(x, text));
            due("STEPS behind " + text, before + answer, x.count(4));
            due("signs of THE TEXT behind " + text, 0, x.count(7));
        }
    }

    // ---- promise 42

    @Says(promise = 42, words = {"THE TEXT pleads, LINES with ; between: a lawyer (a digit 0 .. 3), :, a number (1 or 2 digits), perhaps + and a number, "
        + "then a SAYING (FORM, TERMS as above)."})
    static void p42TheTextPleads() {
        SomeAreNoneIs x = court("Eab@0;Abc@1;Aab@2");
        due("plead()", 4, plead(x, "0:0Eba;3:00Eba;1:1+2Aac;2:02+01Aac"));
        int[][] want = {{c("Eba"), 0, 0, -1}, {c("Eba"), 3, 0, -1}, {c("Aac"), 1, 1, 2}, {c("Aac"), 2, 2, 1}};
        for (int step = 0; step < 4; step++) {
            for (int what = 0; what < 4; what++) {
                due("pleaded(" + step + ", " + what + ")", want[step][what], x.pleaded(step, what));
            }
        }
        SomeAreNoneIs y = court("A-a-l@0;E-k-j@1");
        due("plead() of TERMS with -", 2, plead(y, "0:0E-al;0:1A-kj"));
        due("pleaded(0, 0)", c("E-al"), y.pleaded(0, 0));
        due("pleaded(1, 0)", c("A-kj"), y.pleaded(1, 0));
        due("count(7)", 0, y.count(7));
    }

    @Says(promise = 42, words = {"How many STEPS; they are written down (at most 24)."})
    static void p42AnEmptyTextPleadsNothing() {
        Made[] cases = {SomeAreNoneIs::new, () -> steps(24), () -> {
            SomeAreNoneIs x = busy();
            x.end(0);
            return x;
        }};
        for (Made made : cases) {
            idleCall("plead() of an empty text", made, 0, x -> x.plead());
        }
    }

    @Says(promise = 42, words = "A number is of a SAYING (not WITHDRAWN),")
    static void p42ANumberIsOfASaying() {
        Made sixteen = () -> court(lines("Eab@0", 12), lines("Eab@0", 4));
        duePlea(sixteen, 1, "0:0Eba");
        duePlea(sixteen, 1, "0:15Eba");
        duePlea(sixteen, -101, "0:16Eba");
        duePlea(() -> court("Eab@0"), 1, "0:00Eba");
        duePlea(() -> court("Eab@0"), -101, "0:1Eba");
        duePlea(() -> court("Eab@0"), -101, "0:15Eba");
        duePlea(SomeAreNoneIs::new, -101, "0:0Eba");
        Made withdrawn = () -> {
            SomeAreNoneIs x = court("Eab@0;Eab@1;Abb@2");
            x.mark(0, 1, true);
            return x;
        };
        duePlea(withdrawn, -101, "0:0Eba");
        duePlea(withdrawn, 1, "0:1Eba");
        duePlea(withdrawn, -101, "0:0+2Eba");
        duePlea(withdrawn, -101, "0:2+0Eba");
        duePlea(withdrawn, 1, "0:2+1Eba");
        duePlea(() -> court("Eab@0?"), 1, "0:0Eba");
    }

    @Says(promise = 42, words = "or 16 and more of a STEP pleaded ahead (16 .. 39; also in this text).")
    static void p42ANumberIsOfAStepPleadedAhead() {
        duePlea(() -> steps(0), -101, "0:16Eab");
        duePlea(() -> steps(1), 1, "0:16Eab");
        duePlea(() -> steps(1), -101, "0:17Eab");
        duePlea(() -> steps(0), 2, "0:0Eba;0:16Eab");
        duePlea(() -> steps(0), -101, "0:16Eab;0:0Eba");
        duePlea(() -> steps(0), -111, "0:0Eba;0:17Eab");
        duePlea(() -> steps(3), 2, "0:18Eab;0:19Eba");
        duePlea(() -> steps(23), 1, "0:38Eab");
        duePlea(() -> steps(23), -101, "0:39Eab");
        duePlea(() -> steps(22), 2, "0:37Eab;0:38Eba");
        duePlea(() -> steps(22), -122, "0:37Eab;0:38Eba;0:39Eab");
        duePlea(() -> steps(24), -102, "0:39Eab");
        duePlea(() -> steps(24), -101, "0:40Eab");
        duePlea(() -> steps(24), -101, "0:99Eab");
        duePlea(() -> steps(24), -101, "0:0+40Eab");
        duePlea(() -> steps(24), -101, "0:40+0Eab");
        duePlea(() -> steps(22), -121, "0:0Eba;0:0Eba;0:40Eab");
    }

    @Says(promise = 42, words = "or 16 and more of a STEP pleaded ahead")
    static void p42AStepThatDoesNotStandIsPleadedAllTheSame() {
        SomeAreNoneIs x = steps(1);
        x.mark(0, 1, true);
        due("stands()", 0, x.stands());
        due("plead() from it", 1, plead(x, "0:16Eab"));
        due("stands() behind it", 0, x.stands());
        x.mark(0, 1, false);
        due("stands(), no more WITHDRAWN", 3, x.stands());
    }

    @Says(promise = 42, words = "Each STEP has to follow by one ALLOWED MOOD from these, in this order or the other.")
    static void p42InThisOrderOrTheOther() {
        Made made = () -> court("Aab@0;Abc@1;Eab@2");
        duePlea(made, 1, "0:0+1Aac");
        duePlea(made, 1, "0:1+0Aac");
        duePlea(made, -104, "0:0+1Aca");
        duePlea(made, 1, "0:2Eba");
        duePlea(made, -104, "0:2Eab");
        Made alone = () -> {
            SomeAreNoneIs x = made.make();
            x.allow(1);
            return x;
        };
        duePlea(alone, 1, "0:0+1Aac");
        duePlea(alone, -105, "0:2Eba");
        // A-b-a follows from Aab, but by three MOODS one behind the other.
        duePlea(() -> court("Aab@0"), -103, "0:0A-b-a");
        duePlea(() -> court("Aab@0"), 3, "0:0Ea-b;0:16E-ba;0:17A-b-a");
    }

    @Says(promise = 42, words = {"How many STEPS; they are written down (at most 24).", "2: there would be more than 24,"})
    static void p42AtMost24AreWrittenDown() {
        SomeAreNoneIs x = court("Eab@0");
        due("plead() of 11", 11, plead(x, ELEVEN));
        due("plead() of 22", 11, plead(x, ELEVEN));
        duePlea(() -> steps(22), -122, lines("0:0Eba", 3));
        duePlea(() -> steps(22), 2, lines("0:0Eba", 2));
        duePlea(() -> steps(23), -112, lines("0:0Eba", 2));
        duePlea(() -> steps(23), -112, ELEVEN);
        duePlea(() -> steps(13), 11, ELEVEN);
        duePlea(() -> steps(14), -202, ELEVEN);
        duePlea(() -> steps(24), -102, "0:0Eba");
        SomeAreNoneIs full = steps(24);
        due("count(4)", 24, full.count(4));
        due("pleaded(23, 0)", c("Eba"), full.pleaded(23, 0));
        full.strike();
        due("plead() behind strike()", 1, plead(full, "0:0Eba"));
    }

    @Says(promise = 42, words = "-1 - p: the sign at p can't stand there, as told();")
    static void p42TheSignThatCantStandThere() {
        String line = "3:15+39E-a-b";
        String digits = "0123456789";
        String kinds = "abcdefghijkl";
        String[] follow = {"0123", ":", digits, digits + "+AEIO", "+AEIO", digits, digits + "AEIO", "AEIO", "-" + kinds, kinds, "-" + kinds, kinds, ";"};
        for (int place = 0; place <= line.length(); place++) {
            for (int sign = 0; sign < 256; sign++) {
                boolean can = follow[place].indexOf(sign) >= 0;
                int got = plead(new SomeAreNoneIs(), line.substring(0, place) + (char) sign + "xx");
                if (can == (got == -1 - place)) {
                    fail("plead() of sign " + sign + " at " + place + " answered " + got + ", and it " + (can ? "can" : "can't") + " stand there");
                }
            }
        }
        duePlea(Bench::busy, -1, "x");
        duePlea(Bench::busy, -1, ";");
        duePlea(Bench::busy, -4, "0:0;0:0Eab");
        duePlea(Bench::busy, -8, "0:0Iab;;0:0Iab");
    }

    @Says(promise = 42, words = "-1 - p: the sign at p can't stand there, as told();")
    static void p42APleaThatEndsTooEarly() {
        String text = "1:15+39E-a-b;0:0Iab";
        for (int n = 1; n < text.length(); n++) {
            if (n != 12) {
                duePlea(Bench::busy, -1 - n, text.substring(0, n));
            }
        }
        due("plead() of 76 signs", 11, plead(steps(0), ELEVEN));
        due("signs of them", 76, ELEVEN.length());
        for (String more : new String[] {";", "x", "0", ";0:0", "\u0000"}) {
            duePlea(() -> steps(0), -77, ELEVEN + more);
        }
        due("plead() of 75 signs that end too early", -76, plead(steps(0), lines("0:0Eba", 10) + ";0:0Eb"));
        due("plead() of 76 signs that end too early", -77, plead(steps(0), lines("0:0Eba", 10) + ";0:00Eb"));
        due("plead() of 80 signs, wrong at 75", -76, plead(steps(0), lines("0:0Eba", 10) + ";0:0Ebxxxxx"));
    }

    @Says(promise = 42, words = "-1 - p: the sign at p can't stand there, as told(); else")
    static void p42WhatCantBeReadIsToldAheadOfWhatDoesNotFollow() {
        duePlea(Bench::busy, -8, "0:9Aab;x");
        duePlea(() -> steps(24), -8, "0:0Eba;x");
        duePlea(() -> steps(24), -7, "0:0Ebax");
    }

    @Says(promise = 42, words = "else -100 - 10 k - why: LINE number k (0 ..) does not follow:")
    static void p42TheFirstLineThatDoesNotFollow() {
        for (int k = 0; k < 11; k++) {
            String[] all = ELEVEN.split(";");
            all[k] = "0:0Oba";
            duePlea(() -> steps(0), -100 - 10 * k - 4, String.join(";", all));
            all[k] = "0:2Eba";
            duePlea(() -> steps(0), -100 - 10 * k - 1, String.join(";", all));
        }
        duePlea(() -> steps(0), -114, "0:0Eba;0:0Oba;0:2Eba");
        duePlea(() -> steps(0), -111, "0:0Eba;0:2Eba;0:0Oba");
    }

    @Says(promise = 42, words = "Nothing is written down then.")
    static void p42NothingIsWrittenDownThen() {
        String[] texts = {"0:0Eba;0:2Eba", "0:0Eba;0:0Ekl", "0:0Eba;0:0Oba", "0:0Eba;0:1Iab", "0:0Eba;x"};
        int[] answers = {-111, -113, -114, -116, -8};
        for (int i = 0; i < texts.length; i++) {
            for (int before : new int[] {0, 1, 22}) {
                SomeAreNoneIs x = steps(before);
                due("plead() of " + texts[i], answers[i], plead(x, texts[i]));
                due("STEPS behind it", before, x.count(4));
                dueNone("pleaded() of its first LINE", x, y -> y.pleaded(before, 0));
                due("plead() of the number it would have", -101, plead(x, "0:" + (16 + before) + "Eab"));
                dueSame("plead() of " + texts[i], x, steps(before));
            }
        }
        SomeAreNoneIs none = steps(1);
        none.allow(0);
        due("plead() if none is ALLOWED", -105, plead(none, "0:0Eba"));
        due("STEPS behind it", 1, none.count(4));
        SomeAreNoneIs full = steps(23);
        due("plead() of two where there is room for one", -112, plead(full, "0:0Eba;0:0Eba"));
        due("STEPS behind it", 23, full.count(4));
    }

    @Says(promise = 42, words = {"why 1: a number is of none,", "(in this order)."})
    static void p42ANumberOfNoneIsToldFirst() {
        duePlea(() -> steps(24), -101, "0:2Eba");
        duePlea(() -> steps(24), -101, "0:0+2Eba");
        duePlea(() -> steps(24), -101, "0:2+0Eba");
        duePlea(() -> steps(0), -101, "0:2Ekl");
        duePlea(() -> steps(0), -101, "0:0+2Ekl");
        duePlea(() -> steps(0), -101, "0:16+0Oba");
    }

    @Says(promise = 42, words = {"2: there would be more than 24,", "(in this order)."})
    static void p42MoreThan24IsToldAheadOfTheTerms() {
        duePlea(() -> steps(24), -102, "0:0Ekl");
        duePlea(() -> steps(24), -102, "0:0Oba");
        duePlea(() -> steps(23), -103, "0:0Ekl");
        duePlea(() -> steps(23), -104, "0:0Oba");
    }

    @Says(promise = 42, words = {"3: its TERMS are not those of a conclusion of these premises by any FIGURE (of one premise: by 19, 20 or 21),"})
    static void p42ItsTermsAreNotThoseOfAConclusion() {
        Made two = () -> court("Aab@0;Abc@1;Acb@2;Aba@3;Akl@4;A-bc@5");
        String[] terms = {"aa", "ab", "ac", "ba", "bb", "bc", "ca", "cb", "cc", "a-c", "-ac", "kl"};
        // m is b in each FIGURE: m p, s m; p m, s m; m p, m s; p m, m s.
        String[] premises = {"1+0", "2+0", "1+3", "2+3"};
        for (String pair : premises) {
            for (String both : terms) {
                boolean fits = both.equals("ac") || both.equals("ca");
                SomeAreNoneIs x = two.make();
                x.allow(0);
                int got = plead(x, "0:" + pair + "O" + both);
                due("plead() of " + pair + " O " + both, fits ? -104 : -103, got);
            }
        }
        duePlea(two, -103, "0:0+4Aal");
        duePlea(two, -103, "0:0+5Aac");
        duePlea(two, -104, "0:0+0Obb");
        duePlea(two, -104, "0:0+0Oaa");
        duePlea(two, -103, "0:0+0Oab");
        String[] one = {"ba", "a-b", "ab"};
        String[] fits = {"ab", "ba", "a-b", "aa", "bb", "-ab", "-a-b", "b-a", "-ba", "-b-a", "kl"};
        for (String both : fits) {
            boolean its = java.util.Arrays.asList(one).contains(both);
            for (String form : new String[] {"A", "E", "I", "O"}) {
                SomeAreNoneIs x = court(form + "ab@0");
                int got = plead(x, "0:0" + (form.equals("A") ? "O" : "A") + both);
                due("plead() of " + both + " from " + form + "ab is told its TERMS", !its, got == -103);
            }
        }
    }

    @Says(promise = 42, words = "4: they are, but by no MOOD,")
    static void p42ByNoMood() {
        Made made = () -> {
            SomeAreNoneIs x = court("Aab@0;Abc@1;Iab@2;Oab@3");
            x.sheet(2, 12, 1, 0);
            return x;
        };
        duePlea(made, -104, "0:1+0Eac");
        duePlea(made, -104, "0:1+0Iac");
        duePlea(made, -104, "0:2+1Aac");
        duePlea(made, 1, "0:2+1Iac");
        duePlea(made, -104, "0:3+1Oac");
        duePlea(made, -104, "0:0Aba");
        duePlea(made, -104, "0:0Aab");
        duePlea(made, -104, "0:0Oab");
        duePlea(made, -104, "0:3Oba");
        duePlea(made, -104, "0:0Ia-b");
        Made noneAllowed = () -> {
            SomeAreNoneIs x = made.make();
            x.allow(0);
            return x;
        };
        duePlea(noneAllowed, -104, "0:1+0Eac");
        duePlea(noneAllowed, -104, "0:0Aba");
    }

    @Says(promise = 42, words = "5: by none that is ALLOWED,")
    static void p42ByNoneThatIsAllowed() {
        Made none = () -> {
            SomeAreNoneIs x = court("Aab@0;Abc@1;Aba@2");
            x.allow(0);
            return x;
        };
        duePlea(none, -105, "0:1+0Aac");
        duePlea(none, -105, "0:0Ea-b");
        duePlea(none, -105, "0:0Iab");
        duePlea(none, -105, "0:1+2Iac");
        Made others = () -> {
            SomeAreNoneIs x = court("Aab@0;Abc@1;Aba@2");
            x.allow(ALL_MOODS - 1);
            return x;
        };
        duePlea(others, -105, "0:1+0Aac");
        duePlea(others, 1, "0:0Ea-b");
        duePlea(() -> {
            SomeAreNoneIs x = none.make();
            x.sheet(2, 12, 1, 0);
            return x;
        }, -105, "0:0Iab");
    }

    @Says(promise = 42, words = "6: only by such as need a KIND that LIVES, which does not (in this order).")
    static void p42OnlyByThoseThatNeedAKindThatLives() {
        Made made = () -> court("Aab@0;Abc@1;Aba@2;Ebc@3;Ecb@4;Acb@5;Aaa@6");
        String[] texts = {"0:0Iab", "0:1+2Iac", "0:3+2Oac", "0:4+2Oac", "0:5+2Iac", "0:3Obc"};
        int[] needs = {0, 1, 1, 1, 2, 1};
        for (int i = 0; i < texts.length; i++) {
            int need = needs[i];
            duePlea(made, -106, texts[i]);
            duePlea(() -> {
                SomeAreNoneIs x = made.make();
                x.lives(need, true);
                return x;
            }, 1, texts[i]);
            duePlea(() -> {
                SomeAreNoneIs x = made.make();
                x.sheet(2, 12, 1, 0);
                x.lives(need, false);
                return x;
            }, -106, texts[i]);
        }
        // By 15 or by 18: one of them ALLOWED is enough for 6, none is 5.
        for (int without : new int[] {0, 1 << 15, 1 << 18, 1 << 15 | 1 << 18}) {
            Made some = () -> {
                SomeAreNoneIs x = made.make();
                x.allow(ALL_MOODS - without);
                return x;
            };
            duePlea(some, without == (1 << 15 | 1 << 18) ? -105 : -106, "0:6+6Iaa");
        }
        Made notAKind = () -> {
            SomeAreNoneIs x = court("A-ab@0");
            x.sheet(2, 12, 1, 0);
            return x;
        };
        duePlea(notAKind, -106, "0:0I-ab");
    }

    // ---- promise 43

    @Says(promise = 43, words = "Of a STEP (0 ..), what 0: CODE, 1: its lawyer, 2: its first number, 3: its second one (NONE), 4: the MOOD (the first that does).")
    static void p43OfAStep() {
        SomeAreNoneIs x = court("Aab@0;Abc@1;Eab@2");
        plead(x, "0:1+0Aac;3:00+01Aac;2:2Eba;1:18Eab;0:17+17Icc");
        due("count(4): Icc needs that a lives", 0, x.count(4));
        plead(x, "0:1+0Aac;3:00+01Aac;2:2Eba;1:18Eab");
        int[][] want = {{c("Aac"), 0, 1, 0, 0}, {c("Aac"), 3, 0, 1, 0}, {c("Eba"), 2, 2, -1, 19}, {c("Eab"), 1, 18, -1, 19}};
        for (int step = 0; step < 4; step++) {
            for (int what = 0; what < 5; what++) {
                due("pleaded(" + step + ", " + what + ")", want[step][what], x.pleaded(step, what));
            }
        }
        SomeAreNoneIs full = steps(24);
        for (int step = 0; step < 24; step++) {
            due("pleaded(" + step + ", 0)", c("Eba"), full.pleaded(step, 0));
        }
    }

    @Says(promise = 43, words = "4: the MOOD (the first that does).")
    static void p43TheFirstMoodThatDoes() {
        SomeAreNoneIs x = court("Aaa@0;Eaa@1");
        x.lives(0, true);
        plead(x, "0:0+0Iaa;0:0+0Aaa;0:0+1Eaa;0:1+0Eaa;0:1Eaa;0:1+0Oaa");
        int[] moods = {15, 0, 1, 1, 19, 16};
        for (int i = 0; i < moods.length; i++) {
            due("pleaded(" + i + ", 4)", moods[i], x.pleaded(i, 4));
        }
        x.allow(ALL_MOODS - (1 << 15) - (1 << 1) - (1 << 16));
        due("plead() without 1, 15, 16", 3, plead(x, "0:0+0Iaa;0:0+1Eaa;0:1+0Oaa"));
        int[] others = {18, 4, 17};
        for (int i = 0; i < others.length; i++) {
            due("pleaded(" + (6 + i) + ", 4): the first that is ALLOWED", others[i], x.pleaded(6 + i, 4));
        }
    }

    @Says(promise = 43, words = "NoSuchElementException: none such, another what.")
    static void p43NoSuchStepAndAnotherWhat() {
        for (int step : new int[] {-1, 3, 4, 23, 24, 39, MIN, MAX}) {
            throwsNone("pleaded(" + step + ", 0)", x -> x.pleaded(step, 0));
            throwsNone("pleaded(" + step + ", 4)", x -> x.pleaded(step, 4));
        }
        for (int what : new int[] {-1, 5, MIN, MAX}) {
            throwsNone("pleaded(0, " + what + ")", x -> x.pleaded(0, what));
            throwsNone("pleaded(2, " + what + ")", x -> x.pleaded(2, what));
            throwsNone("pleaded(3, " + what + ")", x -> x.pleaded(3, what));
        }
        throwsNone("pleaded(0, 0) of none", SomeAreNoneIs::new, x -> x.pleaded(0, 0));
        throwsNone("pleaded(24, 0) of 24", () -> steps(24), x -> x.pleaded(24, 0));
        due("pleaded(2, 4)", 21, busy().pleaded(2, 4));
        SomeAreNoneIs y = steps(0);
        plead(y, "0:0Eba;0:2Eba");
        dueNone("pleaded(0, 0) of what was refused", y, x -> x.pleaded(0, 0));
        SomeAreNoneIs z = steps(1);
        z.strike();
        dueNone("pleaded(0, 0) of what was struck out", z, x -> x.pleaded(0, 0));
    }

    // ---- promise 44

    @Says(promise = 44, words = "STEPS (bits) that stand: those of which all numbers are of SAYINGS that are not WITHDRAWN now, or of STEPS that stand.")
    static void p44StepsThatStand() {
        idleCall("stands() of none", SomeAreNoneIs::new, 0, x -> x.stands());
        idleCall("stands()", Bench::busy, 7, x -> x.stands());
        SomeAreNoneIs full = steps(24);
        due("stands() of 24", (1 << 24) - 1, full.stands());
        full.mark(1, 1, true);
        due("stands(), another SAYING WITHDRAWN", (1 << 24) - 1, full.stands());
        full.mark(0, 1, true);
        due("stands(), the SAYING WITHDRAWN", 0, full.stands());
        full.mark(0, 1, false);
        due("stands(), no more", (1 << 24) - 1, full.stands());
        SomeAreNoneIs x = court("Aab@0;Abc@1;Acd@2");
        plead(x, "0:1+0Aac;0:2+1Abd;0:2+16Aad;0:17+0Aad;0:18Ea-d");
        due("stands()", 31, x.stands());
        x.mark(0, 1, true);
        due("stands(), the first WITHDRAWN", 2, x.stands());
        x.mark(0, 1, false);
        x.mark(1, 1, true);
        due("stands(), the second WITHDRAWN", 0, x.stands());
        x.mark(1, 1, false);
        x.mark(2, 1, true);
        due("stands(), the third WITHDRAWN", 1, x.stands());
        x.mark(2, 1, false);
        x.mark(0, 0, true);
        x.allow(0);
        due("stands(): DOUBTED, and not ALLOWED now", 31, x.stands());
        SomeAreNoneIs alive = court("Aab@0");
        alive.lives(0, true);
        plead(alive, "0:0Iab");
        alive.lives(0, false);
        due("stands(): a lives no more", 1, alive.stands());
    }

    // ---- promise 45

    @Says(promise = 45, words = {"Of a lawyer (0 .. 3): how many STEPS that stand; "
        + "the ROW: how many of these are WANTED, how many have the CODE of a SAYING, or of a STEP ahead of them."})
    static void p45WhatALawyerHasDone() {
        SomeAreNoneIs none = new SomeAreNoneIs();
        for (int lawyer = 0; lawyer < 4; lawyer++) {
            due("marks(" + lawyer + ") of none", 0, none.marks(lawyer));
            dueRow("marks(" + lawyer + ") of none", none, 0, 0);
        }
        SomeAreNoneIs full = steps(24);
        full.want(c("Eba"));
        due("marks(0) of 24", 24, full.marks(0));
        dueRow("marks(0) of 24: all but the first again", full, 24, 23);
        told(full, "Eba@5");
        full.marks(0);
        dueRow("marks(0): Eba is a SAYING", full, 24, 24);
        full.mark(0, 1, true);
        due("marks(0), the SAYING WITHDRAWN", 0, full.marks(0));
        dueRow("marks(0), the SAYING WITHDRAWN", full, 0, 0);
        SomeAreNoneIs x = court("Aab@0;Abc@1;Acd@2");
        x.want(c("Aad"));
        x.want(c("Aad"));
        plead(x, "3:1+0Aac;1:2+1Abd;3:2+16Aad;1:17+0Aad");
        due("marks(3)", 2, x.marks(3));
        dueRow("marks(3): Aad, though WANTED twice, is one", x, 1, 0);
        due("marks(1)", 2, x.marks(1));
        dueRow("marks(1): Aad was another's", x, 1, 1);
        due("marks(0)", 0, x.marks(0));
        due("marks(2)", 0, x.marks(2));
        dueRowAlone("marks(1)", 1, y -> y.marks(1), 1, 0);
        SomeAreNoneIs turned = court("Eab@0;Akk@0;Edc@7");
        plead(turned, "0:0Eba;0:16Eab;0:2Ecd;0:18Edc");
        due("marks(0): turned to and fro", 4, turned.marks(0));
        dueRow("marks(0): Eab is the first SAYING, Edc the last", turned, 0, 2);
    }

    @Says(promise = 45, words = "how many have the CODE of a SAYING, or of a STEP ahead of them.")
    static void p45AlsoOfAWithdrawnSayingAndOfAStepThatDoesNotStand() {
        SomeAreNoneIs x = court("Aab@0;Abc@1;Aac@2;Aab@3");
        x.mark(2, 1, true);
        plead(x, "0:1+0Aac");
        due("marks(0)", 1, x.marks(0));
        dueRow("marks(0): Aac is a SAYING that is WITHDRAWN", x, 0, 1);
        SomeAreNoneIs y = court("Aab@0;Abc@1;Aab@2");
        plead(y, "0:1+0Aac;1:1+2Aac");
        y.mark(0, 1, true);
        due("marks(1)", 1, y.marks(1));
        dueRow("marks(1): the STEP ahead does not stand", y, 0, 1);
        due("marks(0): it does not stand", 0, y.marks(0));
        dueRow("marks(0)", y, 0, 0);
    }

    @Says(promise = 45, words = "NONE: others.")
    static void p45OtherLawyers() {
        due("marks(0)", 0, busy().marks(0));
        due("marks(3)", 1, busy().marks(3));
        for (int lawyer : new int[] {-1, 4, 5, MIN, MAX}) {
            refused("marks(" + lawyer + ")", x -> x.marks(lawyer));
        }
    }

    // ---- promise 46

    @Says(promise = 46, words = "The latest STEP is struck out: how many are left.")
    static void p46TheLatestStepIsStruckOut() {
        SomeAreNoneIs x = steps(24);
        for (int left = 23; left >= 0; left--) {
            due("strike()", left, x.strike());
            due("count(4)", left, x.count(4));
        }
        SomeAreNoneIs y = steps(3);
        plead(y, "1:0Eba");
        y.strike();
        dueSame("strike() of what was pleaded", y, steps(3));
        SomeAreNoneIs z = busy();
        due("strike()", 2, z.strike());
        due("pleaded(1, 0): those ahead stay", c("Ea-c"), z.pleaded(1, 0));
        due("stands()", 3, z.stands());
        due("count(7): THE TEXT stays", 7, z.count(7));
        due("count(6): the ROW stays", 2, z.count(6));
    }

    @Says(promise = 46, words = "Refused: none.")
    static void p46NoneToStrikeOut() {
        refused("strike() of none", SomeAreNoneIs::new, -1, x -> x.strike());
        Made struck = () -> {
            SomeAreNoneIs x = busy();
            x.strike();
            x.strike();
            x.strike();
            return x;
        };
        refused("strike() of none left", struck, -1, x -> x.strike());
        due("strike() of the last one", 0, steps(1).strike());
    }

    public static void main(String[] args) {
        run(LawyerSentences.class);
    }
}
