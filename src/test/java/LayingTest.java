/** THE LAYING of told hands, by promise 30's report; and promises 30 and 31 themselves. */
public final class LayingTest {
    private static final Check CHECK = new Check();

    private LayingTest() {
    }

    public static void main(String[] args) {
        leastRest();
        ofSeveral();
        wrapped();
        report();
        bytes();
        CHECK.end("LayingTest");
    }

    private static void laid(String due, int... cards) {
        WrapRuns runs = Matches.holding(cards);
        CHECK.same("30 length of " + due, runs.writeLaying(0), due.length());
        CHECK.same("30 laying", Texts.report(runs), due);
    }

    private static void leastRest() {
        laid("Ac,2c,3c Ad,Ah,As -7s", 0, 13, 26, 39, 1, 2, 45);
        laid("Ac,Ad,Ah,As -2c,4d,6h", 0, 13, 26, 39, 1, 16, 31);
        laid("-2c,5c,8c,Jc,3d,6d,9d", 1, 4, 7, 10, 15, 18, 21);
        laid("5c,5d,5h 6c,6d,6h 7c,7d,7h", 4, 5, 6, 17, 18, 19, 30, 31, 32);
        laid("Ac,2c,3c 4c,5c,6c 7c,8c,9c,Tc", 0, 1, 2, 3, 4, 5, 6, 7, 8, 9);
    }

    private static void ofSeveral() {
        // Fewer cards go ahead: not the run of six, nor four and then two.
        laid("Ac,2c,3c 4c,5c,6c -9d", 0, 1, 2, 3, 4, 5, 21);
        // A set ahead of a run of as many cards: with either 27 is left.
        laid("Tc,Td,Th -Jc,Qc,2d,5s", 9, 22, 35, 10, 11, 14, 43);
        // Of two sets the one with the least card that is not in both.
        laid("Tc,Td,Th Ts,Js,Qs -Jh,Qh", 9, 22, 35, 48, 36, 37, 49, 50);
        laid("Tc,Td,Th Ts,Js,Qs -Jc,Qc", 9, 22, 35, 48, 10, 11, 49, 50);
        // Of two runs likewise: not J Q K A and 2 3 4.
        laid("Ac,2c,3c,4c Jc,Qc,Kc", 0, 1, 2, 3, 10, 11, 12);
        // The least card decides: the run, as Jc would be left by the set of kings.
        laid("Jc,Qc,Kc -2d,Kd,Kh,5s", 10, 11, 12, 25, 38, 14, 43);
    }

    private static void wrapped() {
        laid("Kc,Ac,2c Ad,Ah,As -7s", 12, 0, 1, 26, 39, 13, 45);
        laid("Qd,Kd,Ad -4c,5h,Th,9s", 24, 25, 13, 3, 30, 47, 35);
        laid("Jd,Qd,Kd Ks,As,2s,3s", 51, 39, 40, 41, 23, 24, 25);
        // A run does not go from one suit to the next: Kc Ad 2d is none.
        laid("-2c,Qc,Kc,Ad,2d,9h,4s", 1, 11, 12, 13, 14, 34, 42);
        laid("-Ac,7c,5d,5h,9h,Qs,Ks", 0, 50, 51, 34, 17, 30, 6);
    }

    private static void report() {
        WrapRuns runs = Matches.twoRuns();
        CHECK.same("30 player 0", Texts.laying(runs, 0), "Ac,2c,3c Ad,2d,3d -Ks");
        CHECK.same("30 player 1, in place of it", Texts.laying(runs, 1), "Ah,2h,3h -4c,4d,7s,8s");
        runs = Matches.allLaid();
        runs.draw(false);
        CHECK.same("30 drawn", Texts.laying(runs, 0), "Ac,2c,3c,4c Ad,2d,3d -Ks");
        runs.drop(51);
        CHECK.same("30 the report stays", Texts.report(runs), "Ac,2c,3c,4c Ad,2d,3d -Ks");
        CHECK.same("30 nothing is left", Texts.laying(runs, 0), "Ac,2c,3c,4c Ad,2d,3d");
        WrapRuns any = runs;
        CHECK.outOfRange("30 player 2", () -> any.writeLaying(2));
        CHECK.outOfRange("30 player -1", () -> any.writeLaying(-1));
        CHECK.same("30 what throws leaves the report", Texts.report(runs), "Ac,2c,3c,4c Ad,2d,3d");
        laid("-Ac,8c,Qc,4d,Jd,2h,6h,9h,3s,5s", 0, 7, 11, 16, 23, 27, 31, 34, 41, 43);
    }

    private static void bytes() {
        WrapRuns runs = new WrapRuns();
        CHECK.same("31 nothing was written", runs.reportByte(0), WrapRuns.NONE);
        CHECK.same("31 length", runs.writeLaying(0), 21);
        String due = "Kc,Ac,2c Ad,Ah,As -7s";
        for (int i = 0; i < 21; i++) {
            CHECK.same("31 byte " + i, runs.reportByte(i), due.charAt(i));
        }
        CHECK.same("31 behind", runs.reportByte(21), WrapRuns.NONE);
        CHECK.same("31 ahead", runs.reportByte(-1), WrapRuns.NONE);
        CHECK.same("31 far", runs.reportByte(64), WrapRuns.NONE);
        CHECK.same("31 greatest", runs.reportByte(Integer.MAX_VALUE), WrapRuns.NONE);
        CHECK.same("31 least", runs.reportByte(Integer.MIN_VALUE), WrapRuns.NONE);
        WrapRuns other = Matches.allLaid();
        other.draw(false);
        CHECK.same("31 longer one", other.writeLaying(0), 24);
        other.drop(51);
        CHECK.same("31 shorter one", other.writeLaying(0), 20);
        CHECK.same("31 last byte of it", other.reportByte(19), 'd');
        CHECK.same("31 nothing of the longer one", other.reportByte(20), WrapRuns.NONE);
    }
}
