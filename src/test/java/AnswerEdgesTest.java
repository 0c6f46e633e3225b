/** The edges that the third part of the terms names: what is answered of how all hangs, and what is remembered. */
public final class AnswerEdgesTest {
    private static final String EIGHT = Check.rings(0, 1, 2, 3, 4, 5, 6, 7);
    private static final String WHOLE_POLE = Check.rings(0, 9, 18, 27, 31);

    /** Nobody left of the thick one can push the eighth, which alone is right of the join. */
    private static final String STOPPED = Check.rings(1, 3, 5, 7, 9, 11) + ";ring at 13 cloth 9 thick;ring at 15 cloth 9;join 14";

    private AnswerEdgesTest() {
    }

    public static void main(String[] args) {
        shade();
        darkAndBare();
        goes();
        with();
        would();
        best();
        bestOfSeveral();
        fewest();
        fewestByThirty();
        first();
        snags();
        snagsOfEight();
        sure();
        tries();
        triesOfEight();
        triesOfLaterRings();
        triesOfThoseThatFit();
        loosen();
        order();
        tight();
        slackAndTaut();
        lit();
        sunny();
        faded();
        pale();
        lets();
        envy();
        rests();
        bunch();
        hangs();
        setsOfRings();
        beyond();
        odds();
        share();
        twins();
        trial();
        span();
        led();
        undoTwelve();
        undoHoursAtOnce();
        undoAllButTapeFaultImage();
        forgotten();
        image();
        Check.done("AnswerEdgesTest");
    }

    /** SHADE: PLACES from one HOOKED RING to the next RING, if that is HOOKED, too (both PLACES too). */
    private static void shade() {
        Check.same("nobody", new RodRings().shade(), 0);
        Check.same("one alone", Check.made("ring at 3 cloth 9").shade(), 0);
        Check.same("both places", Check.made(Check.rings(3, 5)).shade(), 0x38);
        Check.same("side by side", Check.made(Check.rings(30, 31)).shade(), 0xc0000000);
        Check.same("place 0", Check.made(Check.rings(0, 1)).shade(), 3);
        RodRings x = Check.made(WHOLE_POLE);
        Check.same("the whole pole", x.shade(), -1);
        x.hook(4, false);
        Check.same("the last one off", x.shade(), 0xfffffff);
        x.hook(0, false);
        Check.same("the first one off", x.shade(), 0xffffe00);
        x.hook(2, false);
        Check.same("one between: none of its sides", x.shade(), 0);
        x.hook(2, true);
        x.hook(1, false);
        Check.same("no shade over one that is off", x.shade(), 0xffc0000);
        Check.same("eight", Check.made(EIGHT).shade(), 255);
    }

    /** DARK: how many CHAIRS are; BARE: PLACES of CHAIRS not in SHADE. */
    private static void darkAndBare() {
        RodRings x = Check.made(WHOLE_POLE);
        Check.same("no chairs", x.dark(), 0);
        Check.same("no chairs", x.bare(), 0);
        for (int place = 0; place < 32; place++) {
            x.chair(place, true);
        }
        Check.same("all", x.dark(), 32);
        Check.same("none", x.bare(), 0);
        for (int ring = 0; ring < 5; ring++) {
            x.hook(ring, false);
        }
        Check.same("none", x.dark(), 0);
        Check.same("all", x.bare(), -1);
        RodRings y = Check.made(Check.rings(4, 6) + ";chair 3;chair 4;chair 6;chair 7");
        Check.same("both ends", y.dark(), 2);
        Check.same("just outside", y.bare(), 1 << 3 | 1 << 7);
    }

    /** GOES: by how many STEPS it can go now (0 to 31). */
    private static void goes() {
        Check.same("31", Check.made("ring at 0 cloth 1").goes(0, true), 31);
        Check.same("0", Check.made("ring at 0 cloth 1").goes(0, false), 0);
        Check.same("31", Check.made("ring at 31 cloth 1").goes(0, false), 31);
        Check.same("0", Check.made("ring at 31 cloth 1").goes(0, true), 0);
        RodRings x = Check.made(EIGHT);
        Check.same("24", x.goes(0, true), 24);
        Check.same("0", x.goes(7, false), 0);
        Check.same("nothing stays", x.ring(0, 0) + x.count(8) + x.count(9) + x.count(10), 0);
    }

    /** WITH: who goes by its next STEP, itself too, as bits (0, if nobody goes). */
    private static void with() {
        RodRings x = Check.made(EIGHT);
        Check.same("all", x.with(0, true), 255);
        Check.same("itself", x.with(7, true), 128);
        Check.same("nobody", x.with(0, false), 0);
        Check.same("nobody", x.with(7, false), 0);
        Check.same("nothing stays", x.count(8), 0);
    }

    /** WOULD of a PULL: SHADE of how many CHAIRS behind it; NOISE it makes. */
    private static void would() {
        RodRings x = Check.made(Check.rings(4, 6) + ";chair 4;chair 5;chair 6;chair 7");
        Check.same("one more", x.would(1, true, 1, false), 4);
        Check.same("one less", x.would(1, false, 1, false), 2);
        Check.same("a pull that goes nowhere: as now", Check.made(Check.rings(0, 2) + ";chair 1").would(0, false, 31, false), 1);
        Check.same("and no noise", Check.made(Check.rings(0, 2)).would(0, false, 31, true), 0);
        Check.same("31 steps", Check.made("ring at 0 cloth 1").would(0, true, 31, true), 31);
        Check.same("wood makes none", Check.made("ring at 0 cloth 1 wood").would(0, true, 31, true), 0);
        Check.same("nothing stays", x.ring(1, 0), 6);
        Check.same("nothing stays", x.count(8) + x.count(9) + x.count(10), 0);
    }

    /** BEST: N (1 to 31) that it goes in full; none, if by none there are more than now. */
    private static void best() {
        Check.same("nobody", new RodRings().best(), -1);
        Check.same("no chairs", Check.made(Check.rings(3, 5)).best(), -1);
        Check.same("all are now", Check.made(Check.rings(3, 5) + ";chair 3;chair 5").best(), -1);
        Check.same("as many as now is not more", Check.made("ring at 3 cloth 2;ring at 5 cloth 9;chair 3;chair 6").best(), -1);
        Check.same("by 1", Check.made(Check.rings(3, 5) + ";chair 2").best(), 1);
        Check.same("by 30 to the right", Check.made("ring at 0 cloth 1;ring at 1 cloth 1;chair 31").best(), 32 + 30);
        Check.same("by 30 to the left", Check.made("ring at 30 cloth 1;ring at 31 cloth 1;chair 0").best(), 30);
        Check.same("out of reach", Check.made("ring at 0 cloth 1;ring at 1 cloth 1 thick;chair 16").best(), -1);
        RodRings off = Check.made(Check.rings(3, 5) + ";chair 2");
        off.hook(1, false);
        Check.same("no shade by any", off.best(), -1);
        Check.same("nothing stays", off.count(8) + off.count(9), 0);
    }

    /** Of several the least: the RING, then the side, then N. */
    private static void bestOfSeveral() {
        Check.same("the least N", Check.made(Check.rings(3, 5) + ";chair 1").best(), 2);
        Check.same("the left side", Check.made("ring at 8 cloth 1;ring at 9 cloth 1;chair 6;chair 11").best(), 2);
        Check.same("the least ring", Check.made(Check.rings(8, 10) + ";chair 7;chair 11").best(), 1);
        Check.same("pushed there by the least ring", Check.made(Check.rings(8, 10) + ";chair 11;chair 12").best(), 32 + 3);
        Check.same("the most, though of a greater number",
                Check.made(Check.rings(8, 10) + ";chair 7;chair 9;chair 11;chair 12").best(), 64 + 32 + 2);
        Check.same("the eighth", Check.made(STOPPED + ";chair 17").best(), 7 * 64 + 32 + 2);
    }

    /** FEWEST: 0, if so now; no more than it can go; none. */
    private static void fewest() {
        RodRings x = Check.made(Check.rings(10, 12));
        Check.same("nothing told", x.fewest(0), 0);
        Check.same("now", x.fewest(1 << 10 | 1 << 12), 0);
        Check.same("one step", x.fewest(1 << 13), 1);
        Check.same("cloth ends: more than 9 apart", x.fewest(1 << 10 | 1 << 20), -1);
        Check.same("just 9 apart", x.fewest(1 << 10 | 1 << 19), 7);
        Check.same("place 31", x.fewest(1 << 31), 19);
        Check.same("place 0", x.fewest(1), 10);
        Check.same("all places", x.fewest(-1), -1);
        Check.same("nobody", new RodRings().fewest(1), -1);
        Check.same("nobody, nothing told", new RodRings().fewest(0), 0);
        Check.same("one alone", Check.made("ring at 5 cloth 9").fewest(1 << 5), -1);
        Check.same("all places now", Check.made(WHOLE_POLE).fewest(-1), 0);
        Check.same("nothing stays", x.ring(0, 0), 10);
        RodRings stopped = Check.made("ring at 10 cloth 9;ring at 15 cloth 9 thick");
        Check.same("no more than it can go", stopped.fewest(1 << 16), -1);
    }

    /** FEWEST by as many STEPS as can be. */
    private static void fewestByThirty() {
        RodRings x = Check.made("ring at 0 cloth 1;ring at 1 cloth 1");
        Check.same("30", x.fewest(1 << 31 | 1 << 30), 30);
        Check.same("the least of both", x.first(1 << 31 | 1 << 30), 1);
        RodRings y = Check.made("ring at 30 cloth 1;ring at 31 cloth 1");
        Check.same("30", y.fewest(3), 30);
        Check.same("the least of both", y.first(3), 0);
        Check.same("the eighth", Check.made(STOPPED).fewest(1 << 17), 2);
        Check.same("the eighth", Check.made(STOPPED).first(1 << 17), 15);
    }

    /** FIRST: of several the least; none, also if it is 0. */
    private static void first() {
        RodRings x = Check.made(Check.rings(10, 12));
        Check.same("0 now", x.first(1 << 10), -1);
        Check.same("nothing told", x.first(0), -1);
        Check.same("none can", x.first(-1), -1);
        Check.same("left by ring 0", x.first(1 << 9), 0);
        Check.same("right by ring 1", x.first(1 << 13), 3);
        Check.same("nobody", new RodRings().first(1), -1);
        RodRings caught = Check.made(Check.rings(10, 12) + ";caught 0");
        Check.same("either: the least", caught.first(1 << 13), 1);
        Check.same("either: the least", caught.first(1 << 9), 0);
        RodRings slower = Check.made(Check.rings(10, 11));
        Check.same("ring 1 by the fewest, not ring 0, which pushes it there", slower.first(1 << 12), 1);
    }

    private static int snags(RodRings x, boolean sure, int... bytes) {
        Check.feed(x, bytes);
        return x.snags(sure);
    }

    private static int tries(RodRings x, int... bytes) {
        Check.feed(x, bytes);
        return x.tries();
    }

    /** SNAGS: sets of RINGS that are CAUGHT (any that have a next one, in place of those that are). */
    private static void snags() {
        Check.same("nobody: the set of none", snags(new RodRings(), false), 1);
        Check.same("one alone: the set of none", snags(Check.made("ring at 3 cloth 1"), false), 1);
        Check.same("one alone goes", snags(Check.made("ring at 0 cloth 1"), false, 0, 1, 31, 31), 1);
        Check.same("one alone does not stop", snags(Check.made("ring at 0 cloth 1"), false, 0, 1, 31, 30), 0);
        RodRings x = Check.made(Check.rings(0, 4) + ";caught 0");
        Check.same("in place of those that are", snags(x, false, 1, 0, 1, 1), 1);
        Check.same("it is not caught then", snags(x, true, 1, 0, 1, 1), 0);
        Check.same("it is caught then", snags(x, true, 1, 0, 1, 0), 1);
        Check.same("both", snags(x, false), 2);
        Check.same("each from how all hangs now", snags(x, false, 1, 0, 31, 3, 1, 0, 31, 3), 1);
        Check.same("more steps than it was pulled by", snags(x, false, 1, 0, 2, 3), 0);
        Check.same("just in full", snags(x, false, 1, 0, 3, 3), 1);
        Check.same("nothing stays", x.caught(), 1);
        Check.same("nothing stays", x.ring(1, 0), 4);
        Check.same("no act", x.count(10) + x.count(9) + x.count(8), 0);
    }

    /** SNAGS of as many RINGS as can be. */
    private static void snagsOfEight() {
        RodRings x = Check.made(Check.rings(0, 2, 4, 6, 8, 10, 12, 14));
        Check.same("128 sets", snags(x, false), 128);
        Check.same("none is sure", snags(x, true), 0);
        int[] all = new int[28];
        for (int i = 0; i < 7; i++) {
            all[4 * i] = i + 1;
            all[4 * i + 2] = 1;
        }
        Check.same("ring i + 1 cannot go: all caught", snags(x, false, all), 1);
        Check.same("all caught", snags(x, true, all), 127);
        for (int i = 0; i < 7; i++) {
            all[4 * i + 3] = 1;
        }
        Check.same("all go: ring 0, at the end, has not caught", snags(x, false, all), 64);
        Check.same("none for sure", snags(x, true, all), 0);
        Check.same("the last one", snags(x, false, 7, 0, 1, 0), 1);
    }

    /** SURE: RINGS that are in all of these, as bits (0 without). */
    private static void sure() {
        RodRings x = Check.made(Check.rings(0, 2, 5));
        Check.same("none fits", snags(x, true, 0, 0, 1, 1), 0);
        Check.same("none fits", snags(x, false, 0, 0, 1, 1), 0);
        Check.same("one of two for sure", snags(x, true, 1, 0, 1, 0), 1);
        Check.same("all that can be", snags(x, true, 1, 0, 1, 0, 2, 0, 1, 0), 3);
    }

    /** TRY: so that the greatest part is the least (of several the least; none with fewer than two). */
    private static void tries() {
        Check.same("nobody", tries(new RodRings()), -1);
        Check.same("one alone", tries(Check.made("ring at 3 cloth 1")), -1);
        RodRings x = Check.made(Check.rings(0, 4));
        Check.same("none fits", tries(x, 0, 0, 1, 1), -1);
        Check.same("one fits", tries(x, 1, 0, 1, 1), -1);
        // Ring 0 cannot go left in either; to the right it goes 30, or 27 if it has caught.
        Check.same("two fit", tries(x), 1);
        Check.same("of several the least", tries(Check.made(Check.rings(4, 8))), 1);
        RodRings right = Check.made(Check.rings(27, 31));
        // Ring 0 goes 3 to the right if it has not caught, else not; to the left it goes 27 in either.
        Check.same("by its right", tries(right), 1);
        RodRings beside = Check.made("ring at 3 cloth 1;ring at 4 cloth 1");
        Check.same("no pull parts them: the least", tries(beside), 0);
        Check.same("nothing stays", x.caught() + x.ring(0, 0) + x.count(9) + x.count(10), 0);
    }

    /** TRY of as many RINGS and sets as can be. */
    private static void triesOfEight() {
        RodRings x = Check.made(Check.rings(0, 2, 4, 6, 8, 10, 12, 14));
        int best = -1;
        int least = 129;
        for (int way = 0; way < 16; way++) {
            int greatest = greatestPart(x, way);
            if (greatest < least) {
                least = greatest;
                best = way;
            }
        }
        Check.same("by trying each set with snag", tries(x), best);
        RodRings thick = Check.made("ring at 0 cloth 1;ring at 1 cloth 1;ring at 2 cloth 1;ring at 3 cloth 1;"
                + "ring at 4 cloth 1;ring at 5 cloth 1;ring at 6 cloth 1;ring at 7 cloth 1");
        Check.same("128 sets that nothing parts", tries(thick), 0);
    }

    private static int greatestPart(RodRings x, int way) {
        return greatestPart(Check.rings(0, 2, 4, 6, 8, 10, 12, 14), x.count(0), way);
    }

    /** Tries each set with snag and goes, and keeps those that fit the rows. */
    private static int greatestPart(String text, int rings, int way, int... rows) {
        int[] parts = new int[32];
        int greatest = 0;
        for (int set = 0; set < 1 << rings - 1; set++) {
            RodRings y = Check.made(text);
            for (int i = 0; i < rings - 1; i++) {
                if ((set >> i & 1) == 1) {
                    y.snag(i);
                }
            }
            boolean fits = true;
            for (int at = 0; at < rows.length; at += 4) {
                fits &= Math.min(rows[at + 2], y.goes(rows[at], rows[at + 1] == 1)) == rows[at + 3];
            }
            if (fits) {
                int far = y.goes(way / 2, way % 2 == 1);
                parts[far]++;
                greatest = Math.max(greatest, parts[far]);
            }
        }
        return greatest;
    }

    /** TRY: the RING and the side by whose PULL by 31: each ring and each side may be the one. */
    private static void triesOfLaterRings() {
        // A thick ring in the corner of place 0 and a join at 1 goes to no side, caught or not.
        String stuck = "ring at 0 cloth 9 thick;join 1;";
        Check.same("ring 1 to the left: 3, or not if ring 0 has caught", tries(Check.made(stuck + "ring at 4 cloth 9")), 2);
        Check.same("ring 1 to the right: 8, or not", tries(Check.made(stuck + "ring at 1 cloth 9")), 3);
        int[] found = new int[6];
        String[] ends = {"", " thick"};
        for (int first = 0; first < 3; first++) {
            for (int gaps = 0; gaps < 27; gaps++) {
                int second = first + 1 + gaps % 3 * 4;
                int third = second + 1 + gaps / 3 % 3 * 4;
                for (int thick = 0; thick < 8; thick++) {
                    String text = "join " + (1 + gaps / 9 * 4) + ";ring at " + first + " cloth 9" + ends[thick & 1] + ";ring at "
                            + second + " cloth 9" + ends[thick >> 1 & 1] + ";ring at " + third + " cloth 9" + ends[thick >> 2];
                    int due = greatestFirst(text, 3);
                    found[due]++;
                    Check.same("try of " + text, tries(Check.made(text)), due);
                }
            }
        }
        for (int way = 0; way < 6; way++) {
            Check.yes("some pole tells of way " + way, found[way] > 0);
        }
    }

    /** The first way whose greatest part is the least. */
    private static int greatestFirst(String text, int rings, int... rows) {
        int best = -1;
        int least = 129;
        for (int way = 0; way < 2 * rings; way++) {
            int greatest = greatestPart(text, rings, way, rows);
            if (greatest < least) {
                least = greatest;
                best = way;
            }
        }
        return best;
    }

    /** TRY: those that fit are parted; the others count for nothing. */
    private static void triesOfThoseThatFit() {
        String[] poles = {Check.rings(1, 3, 6, 10, 15), Check.rings(0, 1, 2, 3, 4), Check.rings(12, 15, 16, 24, 30),
            "ring at 0 cloth 5 thick;ring at 2 cloth 3;ring at 5 cloth 9 thick;ring at 9 cloth 2;ring at 10 cloth 1;join 7"};
        int[] found = new int[11];
        for (int round = 0; round < 160 * poles.length; round++) {
            String text = poles[round / 160];
            int told = round / 16 % 10;
            int[] rows = {told / 2, told % 2, 1 + round % 31, 0};
            RodRings hung = Check.made(text);
            for (int i = 0; i < 4; i++) {
                if ((round >> i & 1) == 1) {
                    hung.snag(i);
                }
            }
            rows[3] = Math.min(rows[2], hung.goes(rows[0], rows[1] == 1));
            RodRings x = Check.made(text);
            int due = snags(x, false, rows) < 2 ? -1 : greatestFirst(text, 5, rows);
            found[due + 1]++;
            Check.same("try of " + text + " told " + java.util.Arrays.toString(rows), tries(x, rows), due);
        }
        Check.yes("some are known already", found[0] > 0);
        Check.yes("some tell of ring 0", found[1] > 0 && found[2] > 0);
        Check.yes("some tell of the last one", found[9] > 0 || found[10] > 0);
    }

    /** FREE: of sets of CAUGHT RINGS the fewest: of several the least as bits; none. */
    private static void loosen() {
        RodRings x = Check.made(Check.rings(0, 2, 4, 6, 8, 10, 12, 14) + ";caught 0;caught 1;caught 2;caught 3;caught 4;caught 5");
        x.snag(6);
        Check.same("none needed", x.loosen(0, true, 17), 0);
        Check.same("any one: the least", x.loosen(0, true, 18), 1);
        Check.same("two: the least", x.loosen(0, true, 19), 3);
        Check.same("all", x.loosen(0, true, 24), 127);
        Check.same("none will do", x.loosen(0, true, 25), -1);
        Check.same("at the end of the pole", x.loosen(0, false, 1), -1);
        Check.same("the last one from its left", x.loosen(7, false, 1), 1);
        Check.same("the last one by 7", x.loosen(7, false, 7), 127);
        Check.same("by 8", x.loosen(7, false, 8), -1);
        Check.same("31", Check.made("ring at 0 cloth 1").loosen(0, true, 31), 0);
        Check.same("nothing stays", x.caught(), 127);
        RodRings y = Check.made(Check.rings(0, 5, 9) + ";caught 1");
        Check.same("one that has not caught is no help", y.loosen(1, false, 5), -1);
    }

    private static RodRings withFades(int... fades) {
        StringBuilder text = new StringBuilder();
        for (int i = 0; i < fades.length; i++) {
            text.append(i == 0 ? "" : ";").append("ring at ").append(i).append(" cloth 1 fade ").append(fades[i]);
        }
        return Check.made(text.toString());
    }

    /** ORDER: so that FADES do not fall from the left to the right. */
    private static void order() {
        Check.same("nobody", new RodRings().order(), 0);
        Check.same("one alone", withFades(99).order(), 0);
        Check.same("alike", withFades(5, 5, 5, 5, 5, 5, 5, 5).order(), 0);
        Check.same("all 0", withFades(0, 0).order(), 0);
        Check.same("rising to 99", withFades(0, 99).order(), 0);
        Check.same("falling by 1", withFades(1, 0).order(), 1);
        Check.same("falling", withFades(99, 80, 60, 50, 40, 30, 20, 0).order(), 7);
        Check.same("the last alone", withFades(1, 2, 3, 4, 5, 6, 7, 0).order(), 1);
        Check.same("the first alone", withFades(9, 1, 2, 3, 4, 5, 6, 7).order(), 1);
    }

    /** TIGHT of N (2 to 8): of several the least; none, if there are fewer. */
    private static void tight() {
        Check.same("nobody", new RodRings().tight(2), -1);
        Check.same("one alone", Check.made("ring at 0 cloth 1").tight(2), -1);
        RodRings x = Check.made(Check.rings(0, 2, 4, 6, 8, 10, 12));
        Check.same("seven of seven", x.tight(7), 0);
        Check.same("eight of seven", x.tight(8), -1);
        Check.same("of several the least", x.tight(2), 0);
        x.sew(13, 1);
        Check.same("eight of eight", x.tight(8), 0);
        Check.same("the last two", x.tight(2), 6);
        Check.same("the last seven", x.tight(7), 1);
        Check.same("from 0 to 31", Check.made(WHOLE_POLE).tight(5), 0);
    }

    /** SLACK: CLOTH less GAP, together (last ones not). TAUT: RINGS whose GAP is their CLOTH. */
    private static void slackAndTaut() {
        Check.same("nobody", new RodRings().slack(), 0);
        Check.same("one alone", Check.made("ring at 0 cloth 9").slack(), 0);
        Check.same("the most", Check.made(EIGHT).slack(), 56);
        Check.same("none is taut", Check.made(EIGHT).taut(), 0);
        RodRings x = Check.made("ring at 0 cloth 1;ring at 1 cloth 1;ring at 2 cloth 1;ring at 3 cloth 1;"
                + "ring at 4 cloth 1;ring at 5 cloth 1;ring at 6 cloth 1;ring at 7 cloth 1");
        Check.same("no slack", x.slack(), 0);
        Check.same("all are taut but the last one", x.taut(), 127);
        Check.same("two", Check.made("ring at 0 cloth 3;ring at 2 cloth 9").slack(), 1);
        Check.same("two", Check.made("ring at 0 cloth 3;ring at 3 cloth 9").taut(), 1);
        Check.same("one less is not taut", Check.made("ring at 0 cloth 3;ring at 2 cloth 9").taut(), 0);
        Check.same("nobody", new RodRings().taut(), 0);
        Check.same("one alone", Check.made("ring at 1 cloth 1").taut(), 0);
    }

    /** LIT of an HOUR: RINGS that the SUN lights in it, as bits. */
    private static void lit() {
        RodRings x = Check.made(Check.rings(3, 4, 12, 13, 20, 27, 28, 31));
        Check.same("hour 0", x.lit(0), 3);
        Check.same("hour 1", x.lit(1), 6);
        Check.same("hour 7: no place behind 31", x.lit(7), 0xc0);
        Check.same("whatever hour it is", Check.made(Check.rings(3, 4) + ";hour 7").lit(0), 3);
        Check.same("nobody", new RodRings().lit(7), 0);
    }

    /** SUNNY: lit in the most HOURS of 0 to 7 (of several the least; none without). */
    private static void sunny() {
        Check.same("nobody", new RodRings().sunny(), -1);
        Check.same("one alone", Check.made("ring at 31 cloth 1").sunny(), 0);
        Check.same("hour 7 counts", Check.made(Check.rings(27, 28) + ";wide 0").sunny(), 1);
        Check.same("hour 0 counts", Check.made("ring at 0 cloth 9;ring at 1 cloth 9;wide 0").sunny(), 0);
        Check.same("hour 0 counts", Check.made(Check.rings(3, 4) + ";wide 4").sunny(), 1);
        Check.same("no hour 8", Check.made(Check.rings(23, 31) + ";wide 3").sunny(), 0);
        Check.same("of several the least", Check.made(Check.rings(1, 2, 3)).sunny(), 0);
        Check.same("the last of eight", Check.made(Check.rings(0, 1, 2, 3, 4, 5, 6, 8)).sunny(), 7);
        RodRings bright = Check.made(Check.rings(0, 1, 4, 5) + ";wide 1");
        Check.same("of several the least", bright.sunny(), 0);
    }

    /** FADED by N HOURS AHEAD: FADES of all together then. */
    private static void faded() {
        Check.same("nobody", new RodRings().faded(80), 0);
        RodRings x = withFades(99, 98, 0, 0, 0, 0, 0, 0);
        Check.law(x, "fade 1");
        Check.same("now", x.faded(0), 197);
        Check.same("one hour: 99 at most", x.faded(1), 204);
        Check.same("80 hours", x.faded(80), 2 * 99 + 6 * 80);
        Check.law(x, "fade 2");
        Check.same("99 at most", x.faded(80), 8 * 99);
    }

    /** PALE: the first N (0 to 80) HOURS AHEAD by which some RING has FADE 99; none. */
    private static void pale() {
        Check.same("nobody", new RodRings().pale(), -1);
        Check.same("now", withFades(0, 99).pale(), 0);
        Check.same("now, the first", withFades(99, 0).pale(), 0);
        RodRings one = withFades(0, 98);
        Check.law(one, "fade 1");
        Check.same("1", one.pale(), 1);
        RodRings eighty = withFades(0, 0, 0, 0, 0, 0, 0, 19);
        Check.law(eighty, "fade 1");
        Check.same("80", eighty.pale(), 80);
        RodRings never = withFades(0, 18);
        Check.law(never, "fade 1");
        Check.same("81 is too late", never.pale(), -1);
        RodRings byHours = Check.made("ring at 0 cloth 1;hour 6");
        Check.law(byHours, "fade 99 if day > 0");
        Check.same("hours go by", byHours.pale(), 3);
        Check.same("without a law", withFades(98).pale(), 1);
        RodRings dark = Check.made("ring at 20 cloth 1 fade 98");
        Check.same("lit from hour 3 on", dark.pale(), 4);
    }

    private static RodRings withLengths(int... lengths) {
        RodRings x = withFades(new int[lengths.length]);
        for (int i = 0; i < lengths.length; i++) {
            x.let(i, lengths[i]);
        }
        return x;
    }

    /** LETS of X (0 to 9): as even as can be; none, if some would be more than X. */
    private static void lets() {
        Check.same("one alone", withLengths(9).lets(0, 9), 9);
        Check.same("one alone, too long", withLengths(9).lets(0, 8), -1);
        Check.same("0", withLengths(0, 0).lets(1, 0), 0);
        RodRings x = withLengths(9, 9, 9, 9, 9, 9, 9, 9);
        Check.same("9 each", x.lets(7, 9), 9);
        Check.same("8 at most", x.lets(7, 8), -1);
        RodRings one = withLengths(0, 0, 0, 0, 0, 0, 0, 1);
        Check.same("the first has 1 more", one.lets(0, 1), 1);
        Check.same("the others not", one.lets(1, 1), 0);
        Check.same("the last not", one.lets(7, 1), 0);
        Check.same("some would be more, though not this one", one.lets(7, 0), -1);
        RodRings seven = withLengths(7, 0, 0, 0, 0, 0, 0, 0);
        Check.same("seven have 1", seven.lets(6, 1), 1);
        Check.same("the eighth has 0", seven.lets(7, 1), 0);
        RodRings even = withLengths(8, 0, 0, 0, 0, 0, 0, 0);
        Check.same("all have 1", even.lets(7, 1), 1);
        Check.same("nothing stays", even.ring(0, 5), 8);
    }

    /** ENVY: longer by 2 at least, or the right one. */
    private static void envy() {
        Check.same("nobody", new RodRings().envy(), 0);
        Check.same("one alone", withLengths(9).envy(), 0);
        Check.same("by 1", withLengths(4, 5, 4).envy(), 0);
        Check.same("left by 2", withLengths(6, 4).envy(), 1);
        Check.same("right by 2", withLengths(4, 6).envy(), 1);
        Check.same("by 9, seven pairs", withLengths(0, 9, 0, 9, 0, 9, 0, 9).envy(), 7);
    }

    /** RESTS: choices from which neither would have more by its other one: as bits; none of the last one. */
    private static void rests() {
        RodRings x = Check.made(Check.rings(0, 1, 3, 6, 10, 19));
        int[] due = {9, 9, 13, 4, 4, -1};
        for (int caught = 0; caught < 2; caught++) {
            for (int i = 0; i < due.length; i++) {
                Check.same("caught " + caught + " ring " + i, x.rests(i), due[i]);
            }
            for (int i = 0; i < due.length - 1 && caught == 0; i++) {
                x.snag(i);
            }
        }
        Check.same("one alone", Check.made("ring at 3 cloth 1").rests(0), -1);
        Check.same("the last but one of eight", Check.made(EIGHT).rests(6), 9);
        Check.same("the last of eight", Check.made(EIGHT).rests(7), -1);
    }

    /** BUNCH: the most RINGS in a row with GAP 1 each (1 of one alone, 0 without RINGS). */
    private static void bunch() {
        Check.same("nobody", new RodRings().bunch(), 0);
        Check.same("one alone", Check.made("ring at 3 cloth 1").bunch(), 1);
        Check.same("gap 2", Check.made(Check.rings(3, 5)).bunch(), 1);
        Check.same("gap 1", Check.made(Check.rings(3, 4)).bunch(), 2);
        Check.same("eight", Check.made(EIGHT).bunch(), 8);
        Check.same("at the left end", Check.made(Check.rings(0, 1, 2, 4, 5)).bunch(), 3);
        Check.same("at the right end", Check.made(Check.rings(0, 1, 3, 4, 5)).bunch(), 3);
    }

    /** HANGS of a RING that is not HOOKED: the nearest HOOKED one (of several the least; none); else itself. */
    private static void hangs() {
        RodRings x = Check.made(Check.rings(9, 12, 15, 17));
        Check.same("itself", x.ring(3, 12), 3);
        x.hook(1, false);
        Check.same("as near: the least", x.ring(1, 12), 0);
        x.hook(2, false);
        Check.same("nearer to the right", x.ring(2, 12), 3);
        x.hook(3, false);
        Check.same("the only one", x.ring(3, 12), 0);
        Check.same("the only one, itself", x.ring(0, 12), 0);
        x.hook(0, false);
        for (int i = 0; i < 4; i++) {
            Check.same("none", x.ring(i, 12), -1);
        }
        RodRings far = Check.made(WHOLE_POLE);
        for (int i = 0; i < 4; i++) {
            far.hook(i, false);
        }
        Check.same("31 away", far.ring(0, 12), 4);
        RodRings one = Check.made("ring at 3 cloth 1");
        one.hook(0, false);
        Check.same("one alone", one.ring(0, 12), -1);
    }

    /** WOODEN, CAUGHT ones, LOOSE: those not HOOKED, as bits: none, and all. */
    private static void setsOfRings() {
        RodRings none = new RodRings();
        Check.same("nobody", none.wooden() | none.caught() | none.loose() | none.beyond(), 0);
        RodRings x = Check.made(EIGHT.replace("cloth 9", "cloth 9 wood"));
        Check.same("all wooden", x.wooden(), 255);
        for (int i = 0; i < 8; i++) {
            x.hook(i, false);
            if (i < 7) {
                x.snag(i);
            }
        }
        Check.same("all loose", x.loose(), 255);
        Check.same("all caught", x.caught(), 127);
    }

    /** BEYOND: THICK ones right of the JOIN, as bits. */
    private static void beyond() {
        String thick = Check.rings(14, 15, 16, 17).replace("cloth 9", "cloth 9 thick");
        Check.same("16 on", Check.made(thick).beyond(), 12);
        Check.same("join 14", Check.made(thick + ";join 14").beyond(), 15);
        Check.same("join 18", Check.made(thick + ";join 18").beyond(), 0);
        Check.same("thin ones not", Check.made(Check.rings(14, 15, 16, 17)).beyond(), 0);
        Check.same("0 is never", Check.made("ring at 0 cloth 1 thick;join 1").beyond(), 0);
        Check.same("31", Check.made("ring at 31 cloth 1 thick;join 31").beyond(), 1);
    }

    /** ODDS of N HOURS (0 to 4): (100 at most), in 10000, rounded down each time. */
    private static void odds() {
        RodRings x = Check.made("ring at 0 cloth 1");
        Check.same("without a law", x.odds(0, 4), 10000);
        Check.law(x, "fall 100");
        Check.same("0 hours", x.odds(0, 0), 10000);
        Check.same("100", x.odds(0, 1), 0);
        Check.law(x, "fall 100;fall 1");
        Check.same("101 is 100", x.odds(0, 1), 0);
        Check.same("and again", x.odds(0, 2), 0);
        Check.law(x, "fall 99");
        Check.same("99", x.odds(0, 1), 100);
        Check.same("99", x.odds(0, 2), 1);
        Check.same("rounded down", x.odds(0, 3), 0);
        Check.law(x, "fall 3");
        int[] due = {10000, 9700, 9409, 9126, 8852};
        for (int n = 0; n <= 4; n++) {
            Check.same("3, each time", x.odds(0, n), due[n]);
        }
        Check.law(x, "fall 50 if hour > 0");
        Check.same("by what it falls by now", x.odds(0, 4), 10000);
    }

    /** SHARE of FADES of all, in hundredths, rounded down (0 without). */
    private static void share() {
        Check.same("without", withFades(0, 0).ring(1, 13), 0);
        Check.same("all of it", withFades(0, 1).ring(1, 13), 100);
        Check.same("nothing of it", withFades(0, 1).ring(0, 13), 0);
        Check.same("a third", withFades(1, 1, 1).ring(2, 13), 33);
        Check.same("two thirds", withFades(2, 1).ring(0, 13), 66);
        Check.same("less than one", withFades(1, 99, 99).ring(0, 13), 0);
        Check.same("an eighth", withFades(99, 99, 99, 99, 99, 99, 99, 99).ring(7, 13), 12);
    }

    /** TWINS: pairs of RINGS of like CLOTH, LONG and FADE. */
    private static void twins() {
        Check.same("nobody", new RodRings().twins(), 0);
        Check.same("one alone", Check.made("ring at 0 cloth 1").twins(), 0);
        Check.same("all pairs of eight", Check.made(EIGHT).twins(), 28);
        Check.same("other cloth", Check.made("ring at 0 cloth 1;ring at 1 cloth 2").twins(), 0);
        Check.same("other fade", withFades(1, 2).twins(), 0);
        Check.same("other length", withLengths(1, 2).twins(), 0);
        Check.same("thick and wood count for nothing", Check.made("ring at 0 cloth 1 thick;ring at 1 cloth 1 wood").twins(), 1);
        Check.same("the first and the last", Check.made("ring at 0 cloth 3;ring at 1 cloth 2;ring at 2 cloth 3").twins(), 1);
    }

    /** TRIAL of N HOURS (0 to 80) from now (draws, too; nothing stays). */
    private static void trial() {
        RodRings x = Check.made(EIGHT + ";caught 2");
        Check.law(x, "catch 3;fall 2");
        x.hook(5, false);
        Check.same("0 hours", x.trial(0, false), 4);
        Check.same("0 hours", x.trial(0, true), 32);
        x.seed(4711);
        String before = Check.told(x);
        for (int n : new int[] {1, 7, 80}) {
            int caught = x.trial(n, false);
            int loose = x.trial(n, true);
            Check.yes("nothing stays", before.equals(Check.told(x)));
            x.hours(n);
            Check.same("caught then", x.caught(), caught);
            Check.same("loose then", x.loose(), loose);
            x.undo();
        }
        Check.same("nobody", new RodRings().trial(80, false), 0);
        Check.same("nobody", new RodRings().trial(80, true), 0);
    }

    /** SPAN: the least and the greatest number of CAUGHT and LOOSE ones together so from SEED 1, 2, .. 6. */
    private static void span() {
        RodRings x = Check.made(EIGHT);
        Check.law(x, "catch 100;fall 100");
        Check.same("0 hours", x.span(0, true), 0);
        Check.same("as many as can be", x.span(1, false), 15);
        Check.same("as many as can be", x.span(80, true), 15);
        Check.law(x, "catch 2;fall 2");
        x.seed(999);
        String before = Check.told(x);
        for (int n : new int[] {1, 5, 40, 80}) {
            int least = 99;
            int greatest = -1;
            for (int seed = 1; seed <= 6; seed++) {
                x.seed(seed);
                int all = Integer.bitCount(x.trial(n, true)) + Integer.bitCount(x.trial(n, false));
                least = Math.min(least, all);
                greatest = Math.max(greatest, all);
            }
            x.seed(999);
            Check.same("least of " + n, x.span(n, false), least);
            Check.same("greatest of " + n, x.span(n, true), greatest);
        }
        Check.yes("nothing stays", before.equals(Check.told(x)));
        Check.same("nobody", new RodRings().span(80, false), 0);
        eachSeedOfSix();
    }

    /** A law by which just one of the six seeds is the least, or the greatest, tells whether it is tried. */
    private static void eachSeedOfSix() {
        int told = 0;
        for (int skip = 1; skip < 400 && told != 0xfff; skip++) {
            RodRings x = Check.made(Check.rings(0, 2, 4, 6, 8, 10, 12, 14));
            Check.law(x, "fall " + (3 + skip % 90));
            int[] all = new int[7];
            int n = 1 + skip % 7;
            for (int seed = 1; seed <= 6; seed++) {
                x.seed(seed);
                all[seed] = Integer.bitCount(x.trial(n, true));
            }
            int[] sorted = java.util.Arrays.copyOfRange(all, 1, 7);
            java.util.Arrays.sort(sorted);
            for (int seed = 1; seed <= 6; seed++) {
                told |= all[seed] < sorted[1] ? 1 << seed - 1 : 0;
                told |= all[seed] > sorted[4] ? 64 << seed - 1 : 0;
            }
            Check.same("least", x.span(n, false), sorted[0]);
            Check.same("greatest", x.span(n, true), sorted[5]);
        }
        for (int seed = 1; seed <= 6; seed++) {
            Check.yes("some law tells of seed " + seed, (told >> seed - 1 & 65) > 0);
        }
    }

    /** LED: how many rows of THE LOG are of a RING; the PLACE of the latest (none). */
    private static void led() {
        RodRings x = Check.made(EIGHT);
        Check.same("no rows", x.led(7, false), 0);
        Check.same("no place", x.led(7, true), -1);
        x.pull(7, true, 3);
        x.pull(7, true, 3);
        x.pull(0, false, 1);
        Check.same("two", x.led(7, false), 2);
        Check.same("the latest", x.led(7, true), 13);
        Check.same("one that went nowhere", x.led(0, false), 1);
        Check.same("place 0", x.led(0, true), 0);
        Check.same("one that was not pulled", x.led(1, false), 0);
        x.pull(1, true, 1);
        x.pull(6, true, 1);
        Check.same("the place of its row, not where it is now", x.led(1, true), 2);
        x.pull(2, true, 31);
        x.pull(0, true, 31);
        Check.same("the place of its row, not where it is now", x.led(1, true), 2);
        for (int i = 0; i < 60; i++) {
            x.pull(3, true, 1);
        }
        Check.same("pushed out of the log", x.led(7, false), 0);
        Check.same("pushed out of the log", x.led(7, true), -1);
        Check.same("60", x.led(3, false), 60);
    }

    /** UNDONE: the latest ACT not undone yet (12 are remembered). */
    private static void undoTwelve() {
        RodRings x = Check.made("ring at 0 cloth 9");
        Check.no("none", x.undo());
        for (int i = 1; i <= 13; i++) {
            x.pull(0, true, 1);
            Check.same("acts", x.count(10), Math.min(12, i));
        }
        for (int i = 12; i >= 1; i--) {
            Check.yes("undone", x.undo());
            Check.same("back", x.ring(0, 0), i);
            Check.same("left", x.count(10), i - 1);
        }
        Check.no("the 13th is forgotten", x.undo());
        Check.same("it stays", x.ring(0, 0), 1);
        Check.same("so does its row", x.count(9), 1);
        x.pull(0, true, 2);
        x.pull(0, true, 4);
        Check.yes("the latest not undone yet", x.undo());
        Check.same("3", x.ring(0, 0), 3);
        x.let(0, 5);
        Check.yes("let", x.undo());
        Check.same("0", x.ring(0, 5), 0);
        Check.yes("then the pull by 2", x.undo());
        Check.same("1", x.ring(0, 0), 1);
        Check.no("no more", x.undo());
    }

    /** HOURS of one call are one. */
    private static void undoHoursAtOnce() {
        RodRings x = Check.made(EIGHT);
        Check.law(x, "fade 1;catch 5;fall 5");
        String before = Check.hanging(x);
        x.hours(80);
        Check.same("one", x.count(10), 1);
        Check.yes("undone", x.undo());
        Check.yes("all of them", before.equals(Check.hanging(x)));
        Check.no("no more", x.undo());
    }

    /** All is as ahead of it (but for the TAPE, fault(), THE IMAGE). */
    private static void undoAllButTapeFaultImage() {
        RodRings x = Check.made(Check.rings(0, 4));
        x.pull(1, true, 1);
        x.image();
        x.pull(1, true, 1);
        x.image();
        Check.feed(x, "x");
        Check.failsArgument("wrong", x::law);
        x.feed(1, 2, 3, 4, 5);
        Check.yes("undone", x.undo());
        Check.same("the tape", x.feed(1, 2, 3, 4, 5), 40);
        Check.same("fault", x.fault(), 0);
        Check.same("place", x.ring(1, 0), 5);
        Check.yes("the image", x.back());
        Check.same("place", x.ring(1, 0), 6);
    }

    /** A text, going back: none are remembered. */
    private static void forgotten() {
        RodRings x = Check.made(Check.rings(0, 4));
        x.let(0, 1);
        Check.pole(x, "");
        Check.same("a text of the pole, though empty", x.count(10), 0);
        Check.no("none", x.undo());
        x.let(0, 2);
        Check.law(x, "");
        Check.no("a law", x.undo());
        x.let(0, 3);
        x.image();
        Check.same("an image is none", x.count(10), 1);
        Check.yes("back", x.back());
        Check.no("going back", x.undo());
        Check.same("stays", x.ring(0, 5), 3);
        RodRings y = Check.made(Check.rings(0, 4));
        y.let(0, 1);
        Check.no("no image", y.back());
        Check.same("not gone back: remembered", y.count(10), 1);
        Check.feed(y, "x");
        Check.failsArgument("refused", y::pole);
        Check.same("refused: remembered", y.count(10), 1);
        for (int i = 0; i < 11; i++) {
            Check.pole(y, "");
        }
        y.let(0, 2);
        Check.feed(y, "");
        Check.fails("a 13th", UnsupportedOperationException.class, y::pole);
        Check.same("refused: remembered", y.count(10), 1);
        Check.yes("undone", y.undo());
        Check.same("as ahead of it", y.ring(0, 5), 1);
    }

    /** THE IMAGE (one) of all may be kept, and gone back to (but for the TAPE, fault() and THE IMAGE itself). */
    private static void image() {
        RodRings x = Check.made(EIGHT + ";chair 3;join 4;wide 5;hour 6");
        Check.law(x, "fade 1;catch 50;fall 50");
        x.hours(1);
        x.seed(-5);
        x.image();
        String kept = Check.hanging(x);
        Check.law(x, "");
        Check.pole(x, "chair 5;join 5;wide 6;hour 1;day 3");
        x.hours(9);
        Check.feed(x, "day");
        Check.failsArgument("wrong", x::pole);
        x.feed(1, 2, 3, 4, 5);
        Check.yes("back", x.back());
        Check.yes("all", kept.equals(Check.hanging(x)));
        Check.same("texts, too", x.count(1), 1);
        Check.same("fault stays", x.fault(), 3);
        Check.same("the tape stays", x.feed(1, 2, 3, 4, 5), 40);
        x.hours(9);
        Check.yes("as often as one likes", x.back());
        Check.yes("all", kept.equals(Check.hanging(x)));
        x.let(0, 7);
        x.image();
        x.let(0, 8);
        Check.yes("one image: the latest", x.back());
        Check.same("the latest", x.ring(0, 5), 7);
    }
}
