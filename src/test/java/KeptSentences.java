/** What is kept, counted and told as a ROW: promises 47 to 50. */
public final class KeptSentences extends Bench {
    // ---- promise 47

    @Says(promise = 47, words = "What is DOUBTED, WITHDRAWN, which KINDS LIVE, ALLOWED are kept under a number 0 .. 2: true.")
    static void p47FourThingsAreKept() {
        for (int shelf = 0; shelf < 3; shelf++) {
            SomeAreNoneIs x = sixteen();
            x.mark(0, 0, true);
            x.mark(15, 1, true);
            x.sheet(2, 12, 1, 0);
            x.allow(5);
            due("keep(" + shelf + ")", true, x.keep(shelf));
            x.mark(0, 0, false);
            x.mark(15, 1, false);
            x.mark(15, 0, true);
            x.mark(0, 1, true);
            x.sheet(3, 0, 0, 0);
            x.allow(0);
            due("again(" + shelf + ")", true, x.again(shelf));
            due("saying(0, 2)", 1, x.saying(0, 2));
            due("saying(0, 3)", 0, x.saying(0, 3));
            due("saying(15, 2)", 0, x.saying(15, 2));
            due("saying(15, 3)", 1, x.saying(15, 3));
            due("count(2)", 4095, x.count(2));
            due("count(3)", 5, x.count(3));
            due("count(5)", 32767, x.count(5));
            for (int other = 0; other < 3; other++) {
                due("again(" + other + ") behind keep(" + shelf + ")", other == shelf, x.again(other));
            }
        }
    }

    @Says(promise = 47, words = "are kept under a number 0 .. 2: true.")
    static void p47EachNumberKeepsItsOwnAndKeepsAnew() {
        SomeAreNoneIs x = new SomeAreNoneIs();
        for (int shelf = 0; shelf < 3; shelf++) {
            x.allow(shelf + 1);
            x.lives(shelf, true);
            due("keep(" + shelf + ")", true, x.keep(shelf));
        }
        for (int shelf : new int[] {2, 0, 1, 0, 2}) {
            x.again(shelf);
            due("count(3) behind again(" + shelf + ")", shelf + 1, x.count(3));
            due("count(2) behind again(" + shelf + ")", (2 << shelf) - 1, x.count(2));
        }
        x.allow(9);
        due("keep(1) anew", true, x.keep(1));
        x.again(0);
        x.again(1);
        due("count(3) behind again(1)", 9, x.count(3));
        due("count(2) behind again(1)", 7, x.count(2));
    }

    @Says(promise = 47, words = "are kept under a number 0 .. 2: true.")
    static void p47KeepingChangesNothingElse() {
        SomeAreNoneIs x = busy();
        x.again(2);
        x.keep(2);
        SomeAreNoneIs twin = busy();
        twin.again(2);
        dueSame("keep(2) of what was kept there", x, twin);
    }

    @Says(promise = 47, words = "Refused: others.")
    static void p47OtherNumbersKeepNothing() {
        for (int shelf : new int[] {-1, 3, 4, MIN, MAX}) {
            refusedAsFalse("keep(" + shelf + ")", x -> x.keep(shelf) ? 1 : 0);
            refused("keep(" + shelf + ") of a new object", SomeAreNoneIs::new, 0, x -> x.keep(shelf) ? 1 : 0);
        }
    }

    // ---- promise 48

    @Says(promise = 48, words = "They are as they were kept under a number")
    static void p48TheyAreAsTheyWereKept() {
        SomeAreNoneIs x = new SomeAreNoneIs();
        x.keep(0);
        x.allow(0);
        x.lives(3, true);
        due("again(0) of a new object", true, x.again(0));
        due("count(2)", 0, x.count(2));
        due("count(3)", ALL_MOODS, x.count(3));
        SomeAreNoneIs y = busy();
        due("again(0)", true, y.again(0));
        due("saying(1, 2)", 1, y.saying(1, 2));
        due("saying(0, 2)", 0, y.saying(0, 2));
        due("saying(2, 3)", 0, y.saying(2, 3));
        due("saying(3, 2)", 1, y.saying(3, 2));
        due("count(2)", 1, y.count(2));
        due("count(3)", ALL_MOODS, y.count(3));
        due("count(1): what is WANTED stays", 3, y.count(1));
        due("count(4): STEPS stay", 3, y.count(4));
        due("count(7): THE TEXT stays", 7, y.count(7));
        dueRow("again(0): the ROW stays", y, 1, 2048);
        due("again(0) once more", true, y.again(0));
        due("again(2)", true, y.again(2));
        due("count(2)", 2049, y.count(2));
        due("count(3)", ALL_MOODS - 8, y.count(3));
    }

    @Says(promise = 48, words = "(SAYINGS told since stay as they are).")
    static void p48SayingsToldSinceStayAsTheyAre() {
        SomeAreNoneIs x = new SomeAreNoneIs();
        x.keep(1);
        told(x, lines("Aab@0?", 10));
        told(x, "Abc@1");
        x.keep(2);
        told(x, lines("Acd@2?", 4) + ";Ade@3");
        due("count(0)", 16, x.count(0));
        for (int i = 0; i < 16; i++) {
            x.mark(i, 0, i % 2 == 0);
            x.mark(i, 1, i % 3 == 0);
        }
        due("again(2): eleven were told", true, x.again(2));
        for (int i = 0; i < 16; i++) {
            due("saying(" + i + ", 2)", i < 10 || i > 10 && i % 2 == 0 ? 1 : 0, x.saying(i, 2));
            due("saying(" + i + ", 3)", i > 10 && i % 3 == 0 ? 1 : 0, x.saying(i, 3));
        }
        x.mark(0, 1, true);
        due("again(1): none was told", true, x.again(1));
        due("saying(0, 2)", 1, x.saying(0, 2));
        due("saying(0, 3)", 1, x.saying(0, 3));
        due("saying(15, 3)", 1, x.saying(15, 3));
        due("saying(15, 2)", 0, x.saying(15, 2));
        due("count(0)", 16, x.count(0));
    }

    @Says(promise = 48, words = "Refused: nothing kept.")
    static void p48NothingKept() {
        refusedAsFalse("again(1)", x -> x.again(1) ? 1 : 0);
        for (int shelf : new int[] {-1, 3, 4, MIN, MAX}) {
            refusedAsFalse("again(" + shelf + ")", x -> x.again(shelf) ? 1 : 0);
        }
        for (int shelf = 0; shelf < 3; shelf++) {
            int number = shelf;
            refused("again(" + shelf + ") of a new object", SomeAreNoneIs::new, 0, x -> x.again(number) ? 1 : 0);
        }
    }

    // ---- promise 49

    @Says(promise = 49, words = {"What 0: SAYINGS, 1: WANTED, 2: KINDS that LIVE (bits), 3: ALLOWED, 4: STEPS, 5: those not WITHDRAWN (bits), "
        + "6: numbers of the ROW, 7: signs of THE TEXT."})
    static void p49WhatIsCounted() {
        int[] ofNew = {0, 0, 0, ALL_MOODS, 0, 0, 0, 0};
        int[] ofBusy = {4, 3, 1 + 4 + 2048, ALL_MOODS - 16, 3, 15 - 4, 2, 7};
        for (int what = 0; what < 8; what++) {
            int number = what;
            idleCall("count(" + what + ") of a new object", SomeAreNoneIs::new, ofNew[what], x -> x.count(number));
            idleCall("count(" + what + ")", Bench::busy, ofBusy[what], x -> x.count(number));
        }
        SomeAreNoneIs most = sixteen();
        for (int i = 0; i < 6; i++) {
            most.want(i);
        }
        most.sheet(2, 12, 1, 0);
        most.allow(0);
        most.allow(ALL_MOODS);
        plead(most, lines("0:0Iab", 11));
        plead(most, lines("0:0Iab", 11));
        plead(most, lines("0:0Iab", 2));
        most.chain(t("a"), t("k"));
        write(most, times("x", 80));
        int[] ofMost = {16, 6, 4095, ALL_MOODS, 24, 65535, 10, 80};
        for (int what = 0; what < 8; what++) {
            due("count(" + what + ") of all that there may be", ofMost[what], most.count(what));
        }
    }

    @Says(promise = 49, words = "NONE for another what.")
    static void p49AnotherWhat() {
        for (int what : new int[] {-1, 8, 9, MIN, MAX}) {
            refused("count(" + what + ")", x -> x.count(what));
        }
    }

    // ---- promise 50

    @Says(promise = 50, words = "Number i of the ROW.")
    static void p50NumberIOfTheRow() {
        SomeAreNoneIs x = busy();
        due("row(0)", 1, x.row(0));
        due("row(1)", 2048, x.row(1));
        due("row(0) again", 1, x.row(0));
        x.proof(c("Aab"));
        for (int i = 0; i < 3; i++) {
            due("row(" + i + ") of -1", -1, x.row(i));
        }
        SomeAreNoneIs longest = court("Aab@0;Abc@0;Acd@0;Ade@0;Aef@0;Afg@0;Agh@0;Ahi@0;Aij@0;Ajk@0;Akl@0", "Ell@0");
        longest.chain(t("a"), t("-a"));
        due("count(6) of the longest ROW", 23, longest.count(6));
        due("row(11)", 11, longest.row(11));
        due("row(22)", 0, longest.row(22));
        dueNone("row(23)", longest, y -> y.row(23));
        longest.chain(t("a"), t("b"));
        dueRow("a shorter ROW has nothing of the longer one", longest, 0);
    }

    @Says(promise = 50, words = "NoSuchElementException: none such.")
    static void p50NoSuchNumber() {
        for (int i : new int[] {-1, 2, 3, 24, MIN, MAX}) {
            throwsNone("row(" + i + ")", x -> x.row(i));
        }
        for (int i : new int[] {-1, 0, 1, MIN, MAX}) {
            throwsNone("row(" + i + ") of a new object", SomeAreNoneIs::new, x -> x.row(i));
        }
        SomeAreNoneIs x = busy();
        x.mood(0, 0, 0, 1);
        dueNone("row(0) of an empty ROW", x, y -> y.row(0));
    }

    public static void main(String[] args) {
        run(KeptSentences.class);
    }
}
