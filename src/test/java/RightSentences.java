/** Who can't be right together: promises 19 to 23. */
public final class RightSentences extends Bench {
    // ---- promise 19

    @Says(promise = 19, words = "The fewest SAYINGS to be WITHDRAWN so that a TOWN HOLDS: how many; the ROW: they (bits):")
    static void p19TheFewestToBeWithdrawn() {
        SomeAreNoneIs none = new SomeAreNoneIs();
        due("clash() of none", 0, none.clash());
        dueRow("clash() of none", none, 0);
        SomeAreNoneIs one = court("Oaa@0");
        due("clash() of what can't be", 1, one.clash());
        dueRow("clash() of what can't be", one, 1);
        one.mark(0, 1, true);
        due("clash() of what is WITHDRAWN", 0, one.clash());
        dueRow("clash() of what is WITHDRAWN", one, 0);
        SomeAreNoneIs all = court(lines("Oaa@0", 12), lines("Oll@7?", 4));
        due("clash() of 16 that can't be", 16, all.clash());
        dueRow("clash() of 16 that can't be", all, 65535);
        all.mark(15, 1, true);
        due("clash() of 15 that can't be", 15, all.clash());
        dueRow("clash() of 15 that can't be", all, 32767);
        SomeAreNoneIs nobody = court("Eaa@0;E-a-a@1;Ibb@2;Icc@3;Idd@4");
        due("clash(): one A or E for three I", 1, nobody.clash());
        dueRow("clash()", nobody, 1);
        dueRowAlone("clash()", 0, x -> x.clash(), 0);
    }

    @Says(promise = 19, words = "The fewest SAYINGS to be WITHDRAWN so that a TOWN HOLDS")
    static void p19WithAllKindsThatLive() {
        SomeAreNoneIs x = court("Eaa@0?;Ebb@1;Ell@7");
        due("clash(): nobody lives", 0, x.clash());
        x.sheet(2, 12, 1, 0);
        due("clash(): all live", 3, x.clash());
        dueRow("clash(): all live", x, 7);
        x.lives(11, false);
        due("clash(): all but l live", 2, x.clash());
        dueRow("clash(): all but l live", x, 3);
    }

    @Says(promise = 19, words = "of as few those of the fewest that are not DOUBTED, then the least.")
    static void p19ThenTheFewestThatAreNotDoubtedThenTheLeast() {
        SomeAreNoneIs x = court("Iab@0;Eab@1;Icd@2;Ecd@3");
        due("clash()", 2, x.clash());
        dueRow("clash(): none is DOUBTED", x, 1 + 4);
        x.mark(3, 0, true);
        x.clash();
        dueRow("clash(): the last is DOUBTED", x, 1 + 8);
        x.mark(1, 0, true);
        x.clash();
        dueRow("clash(): both E are DOUBTED", x, 2 + 8);
        x.mark(0, 0, true);
        x.mark(2, 0, true);
        x.clash();
        dueRow("clash(): all are DOUBTED", x, 1 + 4);
        SomeAreNoneIs y = court("Ebb@0;Ibb@0?;Iab@0?");
        due("clash(): one that is not DOUBTED, ahead of two that are", 1, y.clash());
        dueRow("clash()", y, 1);
        SomeAreNoneIs z = court("Aab@0;Abc@1;Acd@2?;Oad@3?");
        due("clash(): two are DOUBTED", 1, z.clash());
        dueRow("clash(): the least of them", z, 4);
        SomeAreNoneIs last = court(lines("Akk@0", 12), "Akk@1;Akk@2;Ikl@3;Ekl@4?");
        due("clash() of 16", 1, last.clash());
        dueRow("clash(): number 15 is DOUBTED", last, 32768);
        last.mark(15, 0, false);
        last.clash();
        dueRow("clash(): none is DOUBTED", last, 16384);
    }

    // ---- promise 20

    @Says(promise = 20, words = "The fewest WITNESSES without whom a TOWN HOLDS: how many; the ROW: they (bits): of as few the least.")
    static void p20TheFewestWitnessesWithoutWhomATownHolds() {
        SomeAreNoneIs none = new SomeAreNoneIs();
        due("liars() of none", 0, none.liars());
        dueRow("liars() of none", none, 0);
        SomeAreNoneIs all = court("Oaa@0;Oaa@1;Oaa@2;Oaa@3;Oaa@4;Oaa@5;Oaa@6;Oaa@7");
        due("liars(): all eight", 8, all.liars());
        dueRow("liars(): all eight", all, 255);
        for (int i = 0; i < 7; i++) {
            all.mark(i, 1, true);
        }
        due("liars(): the last alone", 1, all.liars());
        dueRow("liars(): the last alone", all, 128);
        all.mark(7, 1, true);
        due("liars(): all is WITHDRAWN", 0, all.liars());
        dueRow("liars(): all is WITHDRAWN", all, 0);
        SomeAreNoneIs tie = court("Iab@7;Eab@0;Icd@3;Ecd@5");
        due("liars() of as few", 2, tie.liars());
        dueRow("liars(): the least", tie, 1 + 8);
        SomeAreNoneIs two = court("Iab@7;Eab@0;Icd@7;Ecd@5");
        due("liars(): 7 in both", 1, two.liars());
        dueRow("liars(): 7 in both", two, 128);
        two.mark(0, 0, true);
        two.mark(1, 0, true);
        due("liars(): DOUBTED or not", 1, two.liars());
        dueRowAlone("liars()", 0, x -> x.liars(), 0);
    }

    // ---- promise 21

    @Says(promise = 21, words = "Of a WITNESS's SAYINGS (not WITHDRAWN) how many FOLLOW from those of all others; the ROW: of how many the contrary does.")
    static void p21HowManyFollowFromThoseOfAllOthers() {
        SomeAreNoneIs none = new SomeAreNoneIs();
        due("truth(0) of none", 0, none.truth(0));
        dueRow("truth(0) of none", none, 0);
        SomeAreNoneIs x = court("Aab@0;Abc@7;Aac@3;Oac@3?;Akl@3;Aac@3");
        due("truth(3)", 2, x.truth(3));
        dueRow("truth(3)", x, 1);
        x.mark(5, 1, true);
        due("truth(3), one WITHDRAWN", 1, x.truth(3));
        dueRow("truth(3)", x, 1);
        x.mark(1, 1, true);
        due("truth(3), one of another WITHDRAWN", 0, x.truth(3));
        dueRow("truth(3)", x, 0);
        due("truth(7): all of it is WITHDRAWN", 0, x.truth(7));
        dueRow("truth(7)", x, 0);
        SomeAreNoneIs y = court("Iab@0;Eab@1;Aab@2;Icd@2");
        due("truth(2): the others can't be right together", 2, y.truth(2));
        dueRow("truth(2): all follows", y, 2);
        due("truth(0): the contrary follows from 1", 0, y.truth(0));
        dueRow("truth(0)", y, 1);
        SomeAreNoneIs all = court(lines("Aaa@7", 12), lines("Oaa@7", 4));
        due("truth(7) of 16", 12, all.truth(7));
        dueRow("truth(7) of 16", all, 4);
        dueRowAlone("truth(0)", 0, z -> z.truth(0), 0);
    }

    @Says(promise = 21, words = "NONE: none such.")
    static void p21NoSuchWitnessTellsTheTruth() {
        due("truth(0)", 0, busy().truth(0));
        due("truth(7)", 0, busy().truth(7));
        for (int witness : new int[] {-1, 8, 9, 31, 32, MIN, MAX}) {
            refused("truth(" + witness + ")", x -> x.truth(witness));
        }
    }

    // ---- promise 22

    @Says(promise = 22, words = "Whether a SAYING FOLLOWS from SAYINGS (not WITHDRAWN) of WITNESSES told as bits (0 .. 255) alone: 1, 0.")
    static void p22WhetherItFollowsFromThoseOfWitnesses() {
        SomeAreNoneIs x = court("Aab@0;Abc@7;Acd@0");
        due("trusts(0, Aab): nobody", 0, x.trusts(0, c("Aab")));
        due("trusts(0, Aaa): nobody", 1, x.trusts(0, c("Aaa")));
        due("trusts(1, Aab)", 1, x.trusts(1, c("Aab")));
        due("trusts(128, Abc)", 1, x.trusts(128, c("Abc")));
        due("trusts(127, Abc)", 0, x.trusts(127, c("Abc")));
        due("trusts(129, Aad)", 1, x.trusts(129, c("Aad")));
        due("trusts(255, Aad)", 1, x.trusts(255, c("Aad")));
        due("trusts(254, Aad)", 0, x.trusts(254, c("Aad")));
        x.mark(1, 0, true);
        due("trusts(255, Aad), one DOUBTED", 1, x.trusts(255, c("Aad")));
        x.mark(1, 1, true);
        due("trusts(255, Aad), one WITHDRAWN", 0, x.trusts(255, c("Aad")));
        idleCall("trusts(255, Aab)", Bench::busy, 1, y -> y.trusts(255, c("Aab")));
    }

    @Says(promise = 22, words = "NONE: others.")
    static void p22NoSuchWitnessesAreTrusted() {
        for (int witnesses : new int[] {-1, 256, 257, MIN, MAX}) {
            refused("trusts(" + witnesses + ", 0)", x -> x.trusts(witnesses, 0));
        }
        dueOfCodes("trusts(0)", SomeAreNoneIs::new, 1, 0, (x, code) -> x.trusts(0, code));
        dueOfCodes("trusts(255)", SomeAreNoneIs::new, 1, 0, (x, code) -> x.trusts(255, code));
        refused("trusts(256, 2304)", x -> x.trusts(256, 2304));
    }

    // ---- promise 23

    @Says(promise = 23, words = "The fewest WITNESSES with whom trusts() is 1: how many; the ROW: they (bits): of as few the least.")
    static void p23TheFewestWitnessesWhoConvict() {
        SomeAreNoneIs none = new SomeAreNoneIs();
        due("convicts(Aaa) of none", 0, none.convicts(0));
        dueRow("convicts(Aaa) of none", none, 0);
        SomeAreNoneIs all = court("Aab@0;Abc@1;Acd@2;Ade@3;Aef@4;Afg@5;Agh@6;Ahi@7");
        due("convicts(Aai): all eight", 8, all.convicts(c("Aai")));
        dueRow("convicts(Aai): all eight", all, 255);
        due("convicts(Ahi): the last", 1, all.convicts(c("Ahi")));
        dueRow("convicts(Ahi): the last", all, 128);
        told(all, "Aai@7");
        due("convicts(Aai): the last", 1, all.convicts(c("Aai")));
        dueRow("convicts(Aai): the last", all, 128);
        told(all, "Aai@6");
        due("convicts(Aai) of as few", 1, all.convicts(c("Aai")));
        dueRow("convicts(Aai): the least", all, 64);
        all.mark(9, 1, true);
        all.convicts(c("Aai"));
        dueRow("convicts(Aai), one WITHDRAWN", all, 128);
        SomeAreNoneIs liars = court("Iab@3;Eab@6");
        due("convicts(Akl): by who can't be right together", 2, liars.convicts(c("Akl")));
        dueRow("convicts(Akl)", liars, 8 + 64);
        dueRowAlone("convicts(Aab)", 1, x -> x.convicts(c("Aab")), 1);
    }

    @Says(promise = 23, words = "-2: not with all; NONE: none such.")
    static void p23NotWithAllOrNoneSuch() {
        idleCall("convicts(Aba)", Bench::busy, -2, x -> x.convicts(c("Aba")));
        idleCall("convicts() of none", SomeAreNoneIs::new, -2, x -> x.convicts(LAST_CODE));
        dueOfCodes("convicts", SomeAreNoneIs::new, 0, -2, (x, code) -> x.convicts(code));
    }

    public static void main(String[] args) {
        run(RightSentences.class);
    }
}
