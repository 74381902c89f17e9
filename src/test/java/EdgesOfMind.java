/** The terms of what is asked: days in mind, pushes, leanings, those who push, odds, the row, lots, fractions. */
final class EdgesOfMind extends Sentences {
    private static final String TEN = "t1000;t1020;t1040;t1060;t1080;t1100;t1120;t1140;t1160;t1180;";

    private EdgesOfMind() {
    }

    static void go() {
        of("Terms");
        beyondTheLastDay();
        whatLeansBeyondTheLastDay();
        daysInMind();
        falls();
        first();
        allUpAndFlat();
        pushed();
        worst();
        gap();
        longest();
        lean();
        bestLeans();
        mendedAndKey();
        takes();
        balanced();
        thief();
        robbed();
        move();
        draught();
        draughtOdds();
        two();
        twoWithoutEnd();
        whatItWas();
        judged();
        lots();
        draws();
        image();
        fractions();
        refusals();
    }

    // ---- days in mind ----

    private static void beyondTheLastDay() {
        says("(In thought DAY may pass 999.)");
        // 11 for 10: 10 on day 1000, 9 on day 1010: then the 9 falls.
        LeansAgainstReason x = late("ph911;t9000;t1190;");
        is(x.purpose(0, 4), 1);
        is(x.purposeThen(0, 1, 0), 10);
        is(x.purposeThen(0, 10, 0), 10);
        is(x.purposeThen(0, 11, 0), 9);
        is(x.purposeThen(0, 11, 1), 1);
        is(x.upThen(0, 10), 1);
        is(x.upThen(0, 11), 0);
        is(x.allThen(11), 1);
        is(x.falls(0), 11);
        is(x.first(0), 0);
        is(x.first(1), 11);
        is(x.first(2), 10);
        is(x.first(3), -9);
        is(x.mended(10), -9);
        is(x.mended(11), 0);
        is(x.key(11), 0);
        is(x.takes(0, 0), 1);
        is(x.takes(0, 1), 0);
        is(x.takes(0, 11), 8);
        // Spare 0 from day 1000 on: the 9 is pushed ahead of day 1001.
        is(x.thief(1), 2);
        is(x.thief(2), 1);
        is(x.robbed(), 0);
        is(x.two(0, 1, 10), 1);
        // 10 for 9 then: one is left whichever of the two goes; none only if both do.
        is(x.two(0, 1, 11), 0);
        row(x, 2, 2, 2, 2, 2, 2, 2, 2, 2, 2, 2, 2);
        is(x.judge(), 11);
        row(x, 11, 10, 10, 10, 10, 10, 10, 10, 10, 10, 10, 9);
        is(x.whatWas(0, 0), 2 + 4);
        is(x.whatWas(0, 1), 512);
        is(x.count(2), 999);
    }

    private static void whatLeansBeyondTheLastDay() {
        says("(In thought DAY may pass 999.)");
        LeansAgainstReason x = late("ph011;ph112;t9000;t1190;");
        // Leant on 0: 10 on day 1000 for 10, then less; on 1: 12 11 11 10 10 9 for 9 alone.
        is(x.lean(0), 1);
        is(x.bestLeans(0, 1, 0, 3, 0), -1);
        is(x.lots(1, 1, 1), late("pp011;ph112;t9000;t1190;").lots(1, 1, 1));
        LeansAgainstReason y = late("ph009;ph109;t9000;t1020;t1040;");
        // Behind day 1000 both have 8; behind 1001 0 has 7, 1 8.
        is(y.bestLeans(0, 1, 2, 1, 1), 2);
        // 0 on day 1008 has none, 1 has 4: two 1s; both have none on day 1016.
        is(y.bestLeans(1, 2, 0, 10, 0), 110);
        is(y.bestLeans(1, 2, 0, 10, 1), 2);
        is(y.bestLeans(0, 1, 2, 16, 1), 1);
        is(y.bestLeans(0, 1, 2, 18, 1), 0);
        is(y.lots(1, 0, 1), 0);
        LeansAgainstReason z = late("ph910;t9000;t1190;");
        is(z.draught(0, 1, 5, 0), 0);
        is(z.draught(1, 1, 5, 0), 1);
        is(z.lots(2, 5, 1), 2 * 8);
        is(z.days(1), -6);
    }

    private static void daysInMind() {
        says("In mind, n DAYS on (0 .. 99): whether a THING is UP (1, 0); how many are UP; STRENGTH of a PURPOSE, LOAD.");
        LeansAgainstReason x = rack("pp099;ph999;t1000;t5191;");
        is(x.upThen(0, 0), 1);
        is(x.upThen(0, 98), 1);
        is(x.upThen(0, 99), 0);
        is(x.upThen(1, 99), 1);
        is(x.allThen(0), 2);
        is(x.allThen(98), 2);
        is(x.allThen(99), 1);
        is(x.purposeThen(0, 0, 0), 99);
        is(x.purposeThen(0, 98, 0), 1);
        is(x.purposeThen(0, 99, 0), 0);
        is(x.purposeThen(1, 99, 0), 90);
        is(x.purposeThen(0, 0, 1), 1);
        is(x.purposeThen(0, 98, 1), 1);
        is(x.purposeThen(0, 99, 1), 0);
        is(x.purposeThen(1, 99, 1), 5);
        is(x.allThen(100), -6);
        is(x.allThen(-1), -4);
        is(none().allThen(0), 0);
        is(none().allThen(99), 0);
        // What is below its load now falls on a day, not ahead of it.
        LeansAgainstReason y = rack("pp000;t9000;");
        is(y.upThen(0, 0), 1);
        is(y.upThen(0, 1), 0);
    }

    private static void falls() {
        says("FALLS: behind how many DAYS (0 .. 99) a THING is DOWN first; -9.");
        LeansAgainstReason x = rack("pp099;ph999;pp000;t1000;t5191;t1052;");
        is(x.falls(0), 99);
        is(x.falls(1), -9);
        is(x.falls(2), 1);
        x.pushes(2);
        is(x.falls(2), 0);
        x.days(1);
        is(x.falls(0), 98);
        // One day later than 99.
        is(rack("d01;ph099;ph199;t1001;").falls(0), -9);
        LeansAgainstReason y = rack("ph099;pp099;t1000;t1021;");
        is(y.falls(0), 99);
        is(rack("ph199;t1000;").falls(0), -9);
        // By another one's fall.
        is(rack("pp003;pp099;t3000;t3011;t3021;t4031;").falls(2), 1);
        is(rack("pp003;pp099;t3000;t3011;t3021;t4031;").falls(3), 96);
    }

    private static void first() {
        says("FIRST: the THING that is UP now and DOWN first, of several that of the least PLACE; -9; when.");
        is(none().first(0), -9);
        is(none().first(1), -9);
        LeansAgainstReason x = rack("ph905;pp003;t5000;");
        is(x.first(0), 0);
        is(x.first(1), 10);
        x.pushes(0);
        is(x.first(0), -9);
        is(x.first(1), -9);
        // On one day: the one that falls in place 9 pushes that in 10; one in place 4 falls by another purpose.
        LeansAgainstReason y = rack("pp003;pp001;t3090;t1100;t1041;t2051;");
        y.strong(1, 3);
        is(y.first(1), 1);
        is(y.first(0), 3);
        y.moves(3, 8);
        is(y.first(0), 3);
        y.moves(3, 19);
        is(y.first(0), 0);
        is(rack("pp003;t1190;").first(0), 0);
        is(rack("pp003;t1190;").first(1), 3);
        is(rack("pp099;t1190;").first(1), 99);
        is(rack("pp099;t1190;").first(0), 0);
        is(rack("ph199;t1190;").first(0), -9);
        is(rack("ph199;t1190;").first(1), -9);
        is(rack("pp099;t1190;d01;").first(1), 98);
    }

    private static void allUpAndFlat() {
        says("ALL UP: the most DAYS (0 .. 99) behind which nothing is DOWN that is not now;");
        is(none().first(2), 99);
        is(rack("pp000;t1000;").first(2), 0);
        is(rack("pp099;t1000;").first(2), 98);
        is(rack("ph199;t1000;").first(2), 99);
        LeansAgainstReason x = rack("pp000;ph199;t1000;t1021;");
        is(x.first(2), 0);
        x.pushes(0);
        is(x.first(2), 99);
        says("FLAT: behind how many all are DOWN; -9.");
        is(none().first(3), 0);
        is(rack("pp050;").first(3), 0);
        is(x.first(3), -9);
        x.pushes(1);
        is(x.first(3), 0);
        is(rack("pp099;t1000;").first(3), 99);
        is(rack("pp098;pp099;t1000;t1021;").first(3), 99);
        is(rack("ph099;ph199;t1000;t1021;").first(3), -9);
        is(rack("pp001;t1000;").first(3), 1);
    }

    // ---- pushes ----

    private static void pushed() {
        says("PUSHED: THINGS (bits) that are DOWN by a FALL of a THING that is UP.");
        LeansAgainstReason x = rack("pp099;t3000;t3010;t3030;t4020;");
        is(x.pushed(0), 3);
        is(x.pushed(1), 2);
        is(x.pushed(3), 12);
        is(x.pushed(2), 4);
        x.pushes(1);
        // That which was down already is not down by it.
        is(x.pushed(0), 1);
        is(x.pushed(1), -3);
        LeansAgainstReason y = rack("pp099;", "t9100;t9110;t9120;t9130;t9140;t9150;t9160;t9170;t9180;t9190;");
        is(y.pushed(0), 1023);
        is(y.pushed(9), 512);
    }

    private static void worst() {
        says("WORST PUSH: the THING whose FALL fells most, of several that of the least PLACE; -9 none is UP; how many.");
        is(none().worst(0), -9);
        is(none().worst(1), -9);
        LeansAgainstReason x = rack("pp099;t1190;t1000;t9060;t9050;");
        is(x.worst(0), 3);
        is(x.worst(1), 2);
        x.pushes(2);
        is(x.worst(0), 1);
        is(x.worst(1), 1);
        x.pushes(1);
        is(x.worst(0), 3);
        x.pushes(3);
        is(x.worst(0), 0);
        x.pushes(0);
        is(x.worst(0), -9);
        is(x.worst(1), -9);
        LeansAgainstReason y = rack("pp099;", "t9100;t9110;t9120;t9130;t9140;t9150;t9160;t9170;t9180;t9190;");
        is(y.worst(0), 0);
        is(y.worst(1), 10);
    }

    private static void gap() {
        says("GAP: the THING that is UP (not the told one) which, taken away, leaves fewest DOWN by a FALL of the told one "
            + "(those taken away are not counted), fewer by 2 or more than else, of several the least number; -9;");
        is(rack("pp099;t5000;").gap(0), -9);
        // Two fall: without the other one, one. Three: without the second one, one.
        is(rack("pp099;t5000;t5010;").gap(0), -9);
        is(rack("pp099;t5000;t5010;t5020;").gap(0), 1);
        is(rack("pp099;t5020;t5000;t5010;").gap(1), 2);
        is(rack("pp099;t5000;t5010;t5020;").gap(1), -9);
        is(rack("pp099;t5010;t5000;t5020;").gap(1), 0);
        LeansAgainstReason x = rack("pp099;t5050;t5000;t5010;t5020;t6030;");
        is(x.gap(1), 2);
        is(x.gap(0), -9);
        is(x.gap(4), -9);
        // One that is down is none, and stops it by itself.
        x.pushes(3);
        is(x.gap(1), -9);
        x.setsUp(3);
        x.pushes(2);
        is(x.gap(2), -3);
        is(x.gap(3), -3);
        is(x.gap(1), -9);
        // Taken away it pushes nothing, though the one behind it would be pushed by the one ahead of it, too.
        is(rack("pp099;t9000;t1010;t1020;t1030;").gap(0), 1);
        LeansAgainstReason y = rack("pp099;", "t9100;t9110;t9120;t9130;t9140;t9150;t9160;t9170;t9180;t9190;");
        is(y.gap(0), 1);
        is(y.gap(7), 8);
        is(y.gap(8), -9);
        is(y.gap(9), -9);
    }

    private static void longest() {
        says("LONGEST: the most THINGS in PLACES beside each other, all UP; the first PLACE of these (-9 none is UP).");
        is(none().longest(0), 0);
        is(none().longest(1), -9);
        is(rack("pp099;t1000;").longest(0), 1);
        is(rack("pp099;t1000;").longest(1), 0);
        is(rack("pp099;t1190;").longest(1), 19);
        // Place 19 and place 0 are not beside each other.
        is(rack("pp099;t1190;t1000;").longest(0), 1);
        is(rack("pp099;t1190;t1000;").longest(1), 0);
        LeansAgainstReason x = rack("pp099;t1000;t1010;t1030;t9040;t1180;t9190;");
        is(x.longest(0), 2);
        is(x.longest(1), 0);
        x.pushes(1);
        is(x.longest(0), 2);
        is(x.longest(1), 3);
        x.pushes(3);
        is(x.longest(1), 18);
        x.pushes(5);
        is(x.longest(0), 1);
        is(x.longest(1), 0);
        LeansAgainstReason y = rack("pp099;", "t1100;t2110;t3120;t4130;t5140;t6150;t7160;t8170;t9180;t9190;");
        is(y.longest(0), 10);
        is(y.longest(1), 10);
        y.pushes(4);
        is(y.longest(0), 5);
        is(y.longest(1), 15);
        y.pushes(9);
        is(y.longest(1), 10);
    }

    // ---- what had better be ----

    private static void lean() {
        says("LEAN of a THING: the PURPOSE on which it had better LEAN now so that it is UP longest (never DOWN: longest of "
            + "all; within 99 DAYS), of several the least; -9 there are none.");
        // A thing has come only behind a purpose: where there are none, there is nobody either.
        is(none().lean(0), -1);
        is(rack("pp000;t1000;").lean(0), 0);
        is(rack("pp099;ph199;t1000;").lean(0), 1);
        is(rack("ph199;pp099;t1000;").lean(0), 0);
        // Within 99 days neither lets it fall.
        is(rack("ph199;ph299;t1001;").lean(0), 0);
        is(rack("pp098;pp099;pp099;t1000;").lean(0), 1);
        is(rack("pp008;pp008;t9000;").lean(0), 0);
        // What else leans there counts: the 9 would fall at once as the heaviest of purpose 1.
        is(rack("pp050;pp055;t9000;t8021;t8041;t8061;t8081;t8101;").lean(0), 0);
        // Beside a thing that falls it is no better where it leans.
        LeansAgainstReason x = rack("pp000;pp099;t5000;t5010;");
        is(x.lean(1), 0);
        x.moves(0, 19);
        is(x.lean(1), 1);
    }

    private static void bestLeans() {
        says("BEST LEANS of three told THINGS: PURPOSES on which they LEAN now so that most of all THINGS are UP behind n "
            + "DAYS (0 .. 20), of several the first (by the told order, least PURPOSE): 100 times the first's, 10 times the "
            + "second's, the third's; how many; -9 no PURPOSES.");
        is(none().bestLeans(0, 1, 2, 0, 0), -1);
        LeansAgainstReason x = rack("pv900;pv901;pv902;pv903;pv904;", "t1000;t2020;t3040;t4060;");
        is(x.bestLeans(0, 1, 2, 0, 0), 0);
        is(x.bestLeans(0, 1, 2, 0, 1), 4);
        // One fall each: behind a day the 4 alone is down, wherever the others lean.
        is(x.bestLeans(0, 1, 2, 1, 0), 0);
        is(x.bestLeans(0, 1, 2, 1, 1), 3);
        // Behind 9 those that are too much for 0 .. 4 all are.
        is(x.bestLeans(0, 1, 2, 9, 0), 123);
        is(x.bestLeans(0, 1, 2, 9, 1), 3);
        is(x.bestLeans(2, 1, 0, 9, 0), 321);
        is(x.bestLeans(1, 2, 0, 9, 0), 231);
        // Thing 0 stays on purpose 0, which has 0.
        is(x.bestLeans(3, 2, 1, 9, 0), 432);
        is(x.bestLeans(3, 2, 1, 9, 1), 3);
        // On day 10 all are less by 1, on day 20 once more.
        is(x.bestLeans(0, 1, 2, 10, 0), 234);
        is(x.bestLeans(0, 1, 2, 20, 0), 340);
        is(x.bestLeans(0, 1, 2, 20, 1), 2);
        is(x.bestLeans(0, 1, 2, 21, 0), -6);
        is(rack("pp000;t1000;t1020;t1040;").bestLeans(2, 0, 1, 20, 0), 0);
        is(rack("pp000;t1000;t1020;t1040;").bestLeans(2, 0, 1, 20, 1), 0);
        // A 9 on 9, two 1s on 2: one way alone, by its digits in the told order.
        LeansAgainstReason z = rack("pv902;pv909;t9000;t1020;t1040;");
        is(z.bestLeans(0, 1, 2, 9, 0), 100);
        is(z.bestLeans(1, 0, 2, 9, 0), 10);
        is(z.bestLeans(1, 2, 0, 9, 0), 1);
        is(z.bestLeans(2, 1, 0, 9, 1), 3);
        // One that is down leans as well, and bears on nothing.
        LeansAgainstReason y = rack("pv900;pv901;t1000;t1020;t1040;");
        y.pushes(0);
        y.pushes(1);
        is(y.bestLeans(0, 1, 2, 1, 0), 1);
        is(y.bestLeans(0, 1, 2, 1, 1), 1);
    }

    private static void mendedAndKey() {
        says("MENDED: the PURPOSE that, with STRENGTH 99 now, makes most UP behind n DAYS, more than else, of several the "
            + "least; -9.");
        is(none().mended(0), -9);
        is(none().mended(99), -9);
        LeansAgainstReason x = rack("pv900;pv900;pv900;t1000;t1021;t1041;t1062;");
        is(x.mended(0), -9);
        // Behind a day each keeps one more: the least; behind two purpose 1 keeps two more.
        is(x.mended(1), 0);
        is(x.mended(2), 1);
        is(x.mended(99), 1);
        is(rack("pv999;t1000;").mended(99), -9);
        is(rack("pv910;pv910;t9000;t9021;").mended(99), 0);
        is(rack("pp099;t1000;").mended(98), -9);
        // 99 and no more: behind 99 days nothing of it is left.
        is(rack("pp001;t1000;").mended(98), 0);
        is(rack("pp001;t1000;").mended(99), -9);
        says("KEY: the PURPOSE that, with STRENGTH 0 now, makes fewest UP behind n DAYS, fewer than else, of several the "
            + "least; -9.");
        is(none().key(0), -9);
        is(none().key(99), -9);
        LeansAgainstReason y = rack("pv999;pv999;pv999;t1000;t1021;t1041;t1062;");
        is(y.key(0), -9);
        is(y.key(1), 0);
        is(y.key(2), 1);
        is(y.key(99), 1);
        is(x.key(2), -9);
        is(rack("pv900;t1000;").key(1), -9);
        is(rack("pv900;pv999;").key(99), -9);
    }

    private static void takes() {
        says("TAKES: the most WEIGHT (0 .. 9) that a THING more on a PURPOSE could have now with SPARE 0 or more behind n "
            + "DAYS (the THINGS as they are then; it does not fall nor push); -9 not even 0.");
        LeansAgainstReason x = rack("pv900;t9000;");
        int[][] due = {{8, -9}, {9, 0}, {10, 1}, {17, 8}, {18, 9}, {19, 9}, {99, 9}, {0, -9}};
        for (int[] strengthAndWeight : due) {
            x.strong(0, strengthAndWeight[0]);
            is(x.takes(0, 0), strengthAndWeight[1]);
        }
        // Behind a day the 9 is down.
        x.strong(0, 8);
        is(x.takes(0, 1), 8);
        x.strong(0, 0);
        is(x.takes(0, 1), 0);
        // Two 9s on 0: one falls a day; behind the first the other one is more than 0 takes.
        LeansAgainstReason y = rack("pv900;t9000;t9020;");
        is(y.takes(0, 0), -9);
        is(y.takes(0, 1), -9);
        is(y.takes(0, 2), 0);
        // No room for a thing or a place is asked for.
        LeansAgainstReason z = rack("pp099;", TEN);
        is(z.takes(0, 80), 9);
        is(z.takes(0, 85), 4);
        is(z.takes(0, 89), 0);
        is(z.takes(0, 99), 0);
    }

    private static void balanced() {
        says("BALANCED: the most of THINGS that are UP (bits, of several the least) whose WEIGHTS together are no more than "
            + "the STRENGTH of a told PURPOSE: which; how many.");
        is(rack("pp099;").balanced(0, 0), 0);
        is(rack("pp099;").balanced(0, 1), 0);
        LeansAgainstReason x = rack("pp000;pp099;t3001;t2021;t2041;t1061;");
        int[][] due = {{0, 0}, {1, 8}, {2, 2}, {3, 10}, {4, 6}, {5, 14}, {6, 11}, {7, 7}, {8, 15}, {99, 15}};
        for (int[] strengthAndBits : due) {
            x.strong(0, strengthAndBits[0]);
            is(x.balanced(0, 0), strengthAndBits[1]);
            is(x.balanced(0, 1), Integer.bitCount(strengthAndBits[1]));
        }
        x.pushes(3);
        x.strong(0, 1);
        is(x.balanced(0, 0), 0);
        x.strong(0, 4);
        is(x.balanced(0, 0), 6);
        x.strong(0, 3);
        // One alone: the 3 has the least bits.
        is(x.balanced(0, 0), 1);
        LeansAgainstReason y = rack("pp099;", "t9000;t9020;t9040;t9060;t9080;t9100;t9120;t9140;t9160;t9180;");
        is(y.balanced(0, 0), 1023);
        y.strong(0, 90);
        is(y.balanced(0, 0), 1023);
        y.strong(0, 89);
        is(y.balanced(0, 0), 511);
        is(y.balanced(0, 1), 9);
        y.pushes(0);
        is(y.balanced(0, 0), 1022);
    }

    // ---- those who push ----

    private static void thief() {
        says("THIEF: one pushes, each DAY ahead of it, the least THING by PLACE that is UP and whose PURPOSE has SPARE 0 or "
            + "less (it FALLS): how many are UP behind n DAYS;");
        is(none().thief(0), 0);
        is(none().thief(99), 0);
        is(rack("pv909;t9000;").thief(0), 1);
        is(rack("pv909;t9000;").thief(1), 0);
        is(rack("pv910;t9000;").thief(1), 1);
        is(rack("pv908;t9000;").thief(0), 1);
        is(rack("pv908;t9000;").thief(1), 0);
        // Only the thing of the full purpose, though another one is in a lesser place; it pushes that behind it.
        LeansAgainstReason x = rack("pv999;pv909;t1000;t5101;t4021;t3030;t1050;");
        is(x.thief(1), 3);
        // 5 for 5 on day 40.
        is(x.thief(40), 3);
        is(x.thief(41), 2);
        is(x.thief(99), 2);
        x.strong(1, 4);
        // 4 for 9: one is pushed ahead of the day; 4 for 5: the heaviest falls on it.
        is(x.thief(1), 2);
        x.pushes(2);
        is(x.thief(1), 2);
        // One each day: spare 0, then 5 for 4 falls on the second day, pushed ahead of it.
        is(rack("pp010;", TEN).thief(3), 7);
        is(rack("pp010;", TEN).thief(10), 0);
        is(rack("pp010;", TEN).thief(99), 0);
    }

    private static void robbed() {
        says("behind how many DAYS there is nothing more to push first (0 .. 99); -9.");
        is(none().robbed(), 0);
        is(rack("pp000;").robbed(), 0);
        is(rack("pv901;t1000;").robbed(), 1);
        is(rack("pv902;t1000;").robbed(), 0);
        is(rack("pv900;t1000;").robbed(), 1);
        // Each day one, as ten things are: no more than ten days can go by so.
        is(rack("pp010;", TEN).robbed(), 10);
        LeansAgainstReason x = rack("pp010;", TEN);
        x.pushes(3);
        is(x.robbed(), 0);
        // Nothing more first; on a later day there would be again.
        LeansAgainstReason y = rack("pp009;pv901;t1000;t1021;t1040;");
        is(y.robbed(), 1);
        is(y.thief(99), 0);
        is(rack("pp003;pv901;t1000;t1021;t1040;").robbed(), 3);
    }

    private static void move() {
        says("MOVE: the PLACE (free, or its own) to which a THING that is UP had better go so that its FALL fells fewest, of "
            + "several the least; how many.");
        LeansAgainstReason x = rack("pp099;t5000;");
        is(x.bestPlace(0, 0), 0);
        is(x.bestPlace(0, 1), 1);
        x.moves(0, 19);
        is(x.bestPlace(0, 0), 0);
        // Free places 0 (a 5 behind it) and 2 (none): a lighter one pushes neither.
        LeansAgainstReason y = rack("pp099;t5010;t5190;t4180;");
        is(y.bestPlace(1, 0), 2);
        is(y.bestPlace(2, 0), 0);
        is(y.bestPlace(0, 0), 0);
        // Ten in a row: place 0 stays free behind place 19, which is the last.
        LeansAgainstReason z = rack("pp099;", "t9010;t9030;t9050;t9070;t9090;t9110;t9130;t9150;t9170;t9190;");
        // Its own place has none behind it; each lesser one but its own has one.
        is(z.bestPlace(0, 0), 0);
        is(z.bestPlace(0, 1), 1);
        is(z.bestPlace(1, 0), 2);
        is(z.bestPlace(9, 0), 18);
        is(z.bestPlace(9, 1), 1);
        is(z.moves(0, 0), 1);
        is(z.bestPlace(1, 0), 1);
        // One that is down takes its place, but is not pushed.
        LeansAgainstReason w = rack("pp099;t9000;t9010;t9050;");
        w.pushes(1);
        is(w.bestPlace(0, 0), 0);
        w.moves(1, 2);
        is(w.bestPlace(2, 0), 1);
        is(w.bestPlace(0, 0), 0);
    }

    private static void chance(LeansAgainstReason x, int thing, int n, int t, long above, long below) {
        is(x.draught(thing, n, t, 0), above);
        is(x.draught(thing, n, t, 1), below);
    }

    private static void draught() {
        says("DRAUGHT: in each of n DAYS (0 .. 7), by itself, with odds 1 in t (2 .. 20) the THING in the least PLACE that is "
            + "UP FALLS ahead of the DAY: how likely a THING is UP behind these: a fraction.");
        LeansAgainstReason x = rack("pv999;t5190;");
        chance(x, 0, 0, 2, 1, 1);
        chance(x, 0, 0, 20, 1, 1);
        chance(x, 0, 1, 2, 1, 2);
        chance(x, 0, 1, 20, 19, 20);
        chance(x, 0, 7, 2, 1, 128);
        chance(x, 0, 7, 20, 893871739L, 1280000000L);
        is(x.draught(0, 8, 2, 0), 4000000000000000006L);
        is(x.draught(0, 7, 21, 0), 4000000000000000006L);
        is(x.draught(0, -1, 2, 0), 4000000000000000004L);
        is(x.draught(0, 7, 1, 0), 4000000000000000004L);
        // A draught takes that behind it with it; one that is down has none.
        LeansAgainstReason y = rack("pv999;t5040;t5050;t6060;");
        chance(y, 1, 1, 3, 2, 3);
        chance(y, 2, 1, 3, 1, 1);
        chance(y, 2, 2, 3, 8, 9);
        y.pushes(1);
        chance(y, 1, 7, 3, 0, 1);
        chance(y, 0, 1, 3, 2, 3);
        y.pushes(0);
        chance(y, 2, 1, 3, 2, 3);
    }

    private static void draughtOdds() {
        says("DRAUGHT: in each of n DAYS (0 .. 7), by itself, with odds 1 in t (2 .. 20) the THING in the least PLACE that is "
            + "UP FALLS ahead of the DAY: how likely a THING is UP behind these: a fraction.");
        // Ten things, one at most a day: the tenth stands whatever comes; the seventh falls by seven draughts.
        LeansAgainstReason x = rack("pv999;pv999;", TEN);
        chance(x, 9, 7, 2, 1, 1);
        chance(x, 7, 7, 2, 1, 1);
        chance(x, 6, 7, 2, 127, 128);
        chance(x, 6, 7, 20, 1279999999L, 1280000000L);
        chance(x, 6, 7, 19, 893871738L, 893871739L);
        chance(x, 0, 7, 3, 128, 2187);
        // At most one of seven: 2^7 and 7 times 2^6, of 3^7.
        chance(x, 1, 7, 3, 64, 243);
        // Ahead of the day: a draught saves a 1 that else falls with too much on its purpose.
        LeansAgainstReason y = rack("pv905;t1000;t5020;");
        chance(y, 1, 1, 4, 1, 4);
        chance(y, 0, 1, 4, 3, 4);
        chance(y, 1, 0, 4, 1, 1);
        // 1 and 5 on 5: a draught now and one more fells both.
        chance(y, 1, 2, 4, 3, 16);
    }

    private static void two() {
        says("TWO push one THING each of two told, or not (1, 0), now, the one first (one that is DOWN by then: nothing): the "
            + "one wants most UP behind n DAYS, the other fewest: the first pair (10 the first's and the other's) by which "
            + "neither has better by another one alone; -9.");
        LeansAgainstReason x = rack("pv999;t5000;t1050;t1060;");
        is(x.two(0, 1, 0), 1);
        is(x.two(0, 1, 99), 1);
        is(x.two(1, 0, 99), 1);
        x.pushes(1);
        // Both told ones are down: every pair ends the same.
        is(x.two(1, 2, 0), 0);
        is(x.two(1, 0, 0), 1);
        is(x.two(0, 1, 0), 0);
        // The one pushes first: then the other's is down, and pushing or not is the same to it.
        LeansAgainstReason y = rack("pv909;pv999;t9000;t1010;t1020;");
        is(y.two(1, 2, 0), 1);
        is(y.two(1, 2, 1), 10);
        // Behind a day 11 on 9: the 9 and the two 1s behind it are down, whatever the other does, but for pushed ones.
        LeansAgainstReason z = rack("pv910;pv999;t9000;t1010;t1021;t1031;");
        is(z.two(1, 3, 0), 1);
        is(z.two(1, 3, 1), 1);
        // 10 on 9: the one's 1 pushed saves the 9 and that behind it, whatever the other pushes.
        LeansAgainstReason w = rack("pv909;pv999;t1190;t9000;t1011;t1101;");
        is(w.two(0, 3, 1), 11);
        is(w.two(0, 3, 0), 1);
        w.pushes(3);
        is(w.two(0, 3, 1), 10);
        is(w.two(3, 0, 1), 0);
    }

    private static void twoWithoutEnd() {
        says("TWO push one THING each of two told, or not (1, 0), now, the one first (one that is DOWN by then: nothing): the "
            + "one wants most UP behind n DAYS, the other fewest: the first pair (10 the first's and the other's) by which "
            + "neither has better by another one alone; -9.");
        // 11 on 10: one 1 pushed saves the 9 and those behind it, both pushed lose one more for nothing.
        LeansAgainstReason x = rack("pv910;pv999;t1190;t1170;t9000;t1011;t1021;");
        is(x.two(0, 1, 1), -9);
        is(x.two(0, 1, 9), -9);
        // Nothing falls by itself yet: the other pushes, the one does not.
        is(x.two(0, 1, 0), 1);
    }

    // ---- the row, lots, the image ----

    private static void whatItWas() {
        says("WHAT IT WAS: a ROW tells STRENGTH of a PURPOSE behind 0, 1, .. DAYS: KINDS (bits) of it by which all of it is so; "
            + "FIGURES (bits 0 .. 9).");
        LeansAgainstReason x = rack("pw345;t1000;");
        is(x.whatWas(0, 0), 63);
        is(x.whatWas(0, 1), 1023);
        row(x, 45);
        is(x.whatWas(0, 0), 63);
        row(x, 46);
        is(x.whatWas(0, 0), 0);
        is(x.whatWas(0, 1), 0);
        row(x, 45, 44);
        // 45, figure 3: a purpose, an oath (0 and 1).
        is(x.whatWas(0, 0), 1 + 8);
        is(x.whatWas(0, 1), 1);
        row(x, 45, 44, 43, 42, 41);
        is(x.whatWas(0, 0), 1);
        row(x, 45, 44, 43, 42, 40);
        is(x.whatWas(0, 0), 8);
        row(x, 45, 45, 45, 45, 44);
        is(x.whatWas(0, 0), 2 + 4);
        row(x, 45, 41);
        is(x.whatWas(0, 0), 16);
        is(x.whatWas(0, 1), 8);
        row(x, 45, 37);
        is(x.whatWas(0, 0), 32);
        is(x.whatWas(0, 1), 128);
        row(x, 45, 35);
        is(x.whatWas(0, 1), 512);
        row(x, 45, 34);
        is(x.whatWas(0, 1), 0);
        // 16 numbers: the last one counts, too.
        row(x, 45, 41, 37, 33, 29, 25, 21, 17, 13, 9, 5, 1, 0, 0, 0, 0);
        is(x.whatWas(0, 0), 16);
        row(x, 45, 41, 37, 33, 29, 25, 21, 17, 13, 9, 5, 1, 0, 0, 0, 1);
        is(x.whatWas(0, 0), 0);
        // An oath of 0: figures 0, 1 and 2 are one; a vow of 50 or more tells nothing of its figure.
        LeansAgainstReason y = rack("po099;");
        row(y, 99, 99, 99);
        is(y.whatWas(0, 1), 7);
        is(y.whatWas(0, 0), 4 + 8 + 32);
        y.turn(0, 2, 0);
        is(y.whatWas(0, 1), 1023);
    }

    private static void judged() {
        says("A ROW of numbers (0 .. 99; 16 at most): JUDGED: how many are UP behind 0, 1, .. DAYS: the first that is not so; "
            + "-9.");
        is(none().judge(), -9);
        LeansAgainstReason n = none();
        row(n, 0, 0, 0, 0, 0, 0, 0, 0, 0, 0, 0, 0, 0, 0, 0, 0);
        is(n.judge(), -9);
        LeansAgainstReason x = rack("pp010;", TEN);
        row(x, 10, 9, 8, 7, 6, 5, 4, 3, 2, 1, 0, 0, 0, 0, 0, 0);
        is(x.judge(), -9);
        row(x, 10, 9, 8, 7, 6, 5, 4, 3, 2, 1, 0, 0, 0, 0, 0, 1);
        is(x.judge(), 15);
        row(x, 9, 9, 8);
        is(x.judge(), 0);
        row(x, 10, 10, 9);
        is(x.judge(), 1);
        row(x, 99);
        is(x.judge(), 0);
        is(x.row(99), 1);
        is(x.row(0), 2);
        is(x.row(100), -6);
        is(x.row(-1), -4);
        is(x.count(6), 2);
    }

    private static int draw(int z, int m) {
        return (int) (((z & 0xffffffffL) % (1L << 31)) / 256 % m);
    }

    private static int after(int z) {
        return (int) ((z & 0xffffffffL) * 1664525L + 1013904223L & 0xffffffffL);
    }

    /** By a lie that is leant on; each loses another number in 20 days under a weight of 1. */
    private static int lost(int lie) {
        return new int[] {40, 80, 60, 30, 10}[lie];
    }

    private static void lots() {
        says("LOTS with a seed z: n terms (1 .. 20): each THING, by numbers, LEANS on a PURPOSE by a DRAW below as many as "
            + "there are, then 20 DAYS: how many are UP of all together; STRENGTHS together.");
        LeansAgainstReason x = rack("pl099;pl199;pl960;pl930;pl910;t1000;");
        int z = 77;
        int strengths = 0;
        int up = 0;
        for (int n = 1; n <= 20; n++) {
            z = after(z);
            strengths += 298 - lost(draw(z, 5));
            up += draw(z, 5) < 2 ? 1 : 0;
            is(x.lots(n, 77, 1), strengths);
            is(x.lots(n, 77, 0), up);
        }
        is(x.lots(21, 77, 0), -6);
        is(x.lots(0, 77, 0), -4);
        // Each term begins with the rack as it is; those that are down are drawn for, and stay down.
        LeansAgainstReason y = rack("pl199;pl099;t1000;t1020;");
        y.pushes(0);
        int w = 5;
        int left = 0;
        for (int n = 0; n < 20; n++) {
            w = after(after(w));
            left += 198 - lost(1 - draw(w, 2));
        }
        is(y.lots(20, 5, 0), 20);
        is(y.lots(20, 5, 1), left);
        is(rack("pp020;").lots(20, 5, 1), 0);
        is(rack("pp021;").lots(20, 5, 1), 20);
        is(rack("pp021;").lots(20, 5, 0), 0);
        LeansAgainstReason t = rack("pv999;", TEN);
        is(t.lots(20, 5, 0), 200);
        is(t.lots(20, 5, 1), 1980);
    }

    private static void draws() {
        says("A DRAW below m: z becomes z times 1664525 and 1013904223 (an int); (z without its sign's bit by 256, cut) modulo "
            + "m.");
        String[] lies = {"pl099;", "pl199;", "pl960;", "pl930;", "pl910;"};
        int[] seeds = {LEAST, LEAST + 1, -1013904223, -2, -1, 0, 1, 2, 255, 256, 1664525, 1 << 30, MOST - 1, MOST};
        int[] strength = {99, 99, 60, 30, 10};
        String rack = "";
        int all = 0;
        for (int m = 1; m <= 5; m++) {
            rack += lies[m - 1];
            all += strength[m - 1];
            LeansAgainstReason x = rack(rack + "t1000;");
            for (int z : seeds) {
                is(x.lots(1, z, 1), all - lost(draw(after(z), m)));
                int twice = after(after(z));
                is(x.lots(2, z, 1), 2 * all - lost(draw(after(z), m)) - lost(draw(twice, m)));
            }
        }
        // 0 becomes 1013904223: by 256 it is 3960563; -1 becomes 1012239698: 3954061. LEAST is as 0 but for its sign.
        is(draw(after(0), 5), 3);
        is(draw(after(-1), 5), 1);
        is(draw(after(LEAST), 5), 3);
        is(draw(-1, 5), 8388607 % 5);
    }

    private static void image() {
        says("THE IMAGE: all that there is, but it, the ROW, letters, REFUSALS; ON from it all is as then.");
        LeansAgainstReason x = none();
        is(x.on(), -3);
        is(x.image(), 0);
        told(x, "pp050;t5000;d03;");
        is(x.on(), 0);
        is(x.count(0), 0);
        is(x.count(1), 0);
        is(x.count(2), 0);
        is(x.at(0), -9);
        is(x.thing(0, 0), -1);
        is(told(x, "pw102;t5190;"), 2);
        is(x.thing(0, 1), 19);
        is(x.purpose(0, 0), 4);
        is(x.image(), 0);
        x.days(5);
        x.row(3);
        x.letter('p');
        x.letter(-1);
        is(x.on(), 0);
        is(x.count(3), 1);
        is(x.purpose(0, 2), 2);
        is(x.count(6), 1);
        is(x.count(7), 1);
        is(x.count(14), 1);
        // It stays the image, and is none of what comes behind it.
        x.strong(0, 9);
        is(x.on(), 0);
        is(x.purpose(0, 2), 2);
        LeansAgainstReason y = late("pp050;t1000;");
        is(y.image(), 999);
        y.pushes(0);
        is(y.on(), 999);
        is(y.count(3), 1);
    }

    private static void fractions() {
        says("Fractions are told in least terms; 0 as 0 by 1.");
        LeansAgainstReason x = rack("pv999;t5000;t5020;");
        chance(x, 0, 2, 4, 9, 16);
        chance(x, 1, 3, 4, 27, 32);
        chance(x, 1, 2, 2, 3, 4);
        chance(x, 1, 3, 2, 1, 2);
        chance(x, 1, 0, 6, 1, 1);
        x.pushes(0);
        chance(x, 0, 0, 20, 0, 1);
        chance(x, 0, 7, 20, 0, 1);
        LeansAgainstReason y = rack("pp000;t5000;");
        chance(y, 0, 7, 20, 0, 1);
        chance(y, 0, 0, 20, 1, 1);
    }

    private static void refusals() {
        says("REFUSALS (the call answers the number, the first that fits in the order in which it tells them; nothing changes "
            + "but how many there were):");
        LeansAgainstReason x = rack("pp050;t5000;");
        is(x.purposeThen(1, -1, 2), -1);
        is(x.purposeThen(0, -1, 2), -4);
        is(x.purposeThen(0, 100, 2), -6);
        is(x.purposeThen(0, 99, 2), -2);
        int[] due = {1, 1, 0, 1, 0, 1};
        for (int i = 0; i < 6; i++) {
            is(x.count(11 + i), due[i]);
        }
        says("-1 NOBODY: no such THING, PURPOSE, PLACE.");
        is(x.thing(1, 0), -1);
        is(x.purpose(-1, 0), -1);
        is(x.at(20), -1);
        is(x.count(11), 4);
        says("-2 OTHER: what, KIND.");
        is(x.worst(2), -2);
        is(x.turn(0, 6, 0), -2);
        is(x.count(12), 3);
        says("-3 STATE: it is not as it must be.");
        is(x.on(), -3);
        x.pushes(0);
        is(x.pushes(0), -3);
        is(x.count(13), 2);
        says("-4 BELOW: a number below the least.");
        is(x.strong(0, -1), -4);
        is(x.days(0), -4);
        is(x.count(14), 3);
        says("-6 ROOM: a number above the greatest, no room.");
        is(x.strong(0, 100), -6);
        is(x.letter(256), -6);
        is(x.count(16), 3);
        is(x.count(15), 0);
        says("Of spare() REFUSALS are 1000000000 less them (-1 is told as 1000000001), of longs 4000000000000000000 less them "
            + "(-1 as 4000000000000000001).");
        is(x.spare(1), 1000000001);
        is(x.spare(-1), 1000000001);
        is(x.count(11), 6);
        is(x.draught(1, 0, 2, 0), 4000000000000000001L);
        is(x.draught(0, 0, 2, 2), 4000000000000000002L);
        is(x.draught(0, -1, 2, 0), 4000000000000000004L);
        is(x.draught(0, 8, 2, 0), 4000000000000000006L);
        is(x.count(11), 7);
        is(x.count(12), 4);
        is(x.count(14), 4);
        is(x.count(16), 4);
    }
}
