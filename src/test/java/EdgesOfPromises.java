/** Each promise's own words at their edges; what it refuses is in EdgesOfRefusals. */
final class EdgesOfPromises extends Sentences {
    private static final String TEN = "t1000;t1020;t1040;t1060;t1080;t1100;t1120;t1140;t1160;t1180;";

    private EdgesOfPromises() {
    }

    static void go() {
        newObject();
        letter();
        rackOfLetters();
        rackFaults();
        purpose();
        spareAndThing();
        at();
        leans();
        moves();
        setsUp();
        pushes();
        strong();
        turn();
        days();
        then();
        purposeThen();
        falls();
        first();
        pushedAndWorst();
        gapAndLongest();
        lean();
        bestLeans();
        mendedAndKey();
        takesAndBalanced();
        thiefAndRobbed();
        bestPlace();
        draught();
        two();
        whatWas();
        row();
        judge();
        clear();
        lots();
        image();
        on();
        count();
    }

    private static void newObject() {
        of(1);
        says("No PURPOSES, no THINGS, DAY 0.");
        LeansAgainstReason x = none();
        for (int what = 0; what <= 7; what++) {
            is(x.count(what), 0);
        }
        for (int what = 11; what <= 16; what++) {
            is(x.count(what), 0);
        }
        for (int place = 0; place < 20; place++) {
            is(x.at(place), -9);
        }
        is(x.clear(), 0);
        is(x.judge(), -9);
        is(x.image(), 0);
        is(x.days(60), 0);
        is(x.count(2), 60);
        is(x.count(4), 0);
        is(x.count(5), 0);
        // One object is none of another.
        LeansAgainstReason y = none();
        told(x, "pp099;t1000;");
        is(y.count(0), 0);
        is(y.count(2), 0);
        is(y.at(0), -9);
        is(y.on(), -3);
    }

    private static void letter() {
        of(2);
        says("A letter (0 .. 255) comes: how many there are.");
        LeansAgainstReason x = none();
        for (int c = 0; c < 96; c++) {
            is(x.letter(c), c + 1);
            is(x.count(7), c + 1);
        }
        is(x.rack(), -1000);
        is(x.count(7), 0);
        for (int c = 0; c < 80; c++) {
            is(x.letter(255 - c), c + 1);
        }
        is(x.rack(), -1000);
        is(x.letter(255), 1);
        is(x.rack(), -1000);
        // 112 + 256 is no 'p'.
        is(x.letter(368), -6);
        is(x.letter(112 - 256), -4);
        is(x.count(7), 0);
    }

    private static void rackOfLetters() {
        of(3);
        says("The letters become a RACK, and are no more (with a FAULT neither): how many STATEMENTS; the FAULT (nothing is "
            + "counted).");
        LeansAgainstReason x = none();
        is(told(x, "pp099;"), 1);
        is(x.count(7), 0);
        is(x.rack(), -1000);
        is(told(x, "t1000;t1010;u0;"), 3);
        is(told(x, "t10"), -1003);
        is(x.count(7), 0);
        is(told(x, "20;"), -1000);
        is(x.count(7), 0);
        is(told(x, "t1000;"), -2000);
        is(x.count(7), 0);
        is(told(x, "t1190;"), 1);
        is(x.count(1), 3);
        for (int what = 11; what <= 16; what++) {
            is(x.count(what), 0);
        }
        StringBuilder many = new StringBuilder();
        for (int i = 0; i < 32; i++) {
            many.append("u0;");
        }
        is(told(x, many.toString()), 32);
    }

    private static void rackFaults() {
        of(3);
        says("The letters become a RACK, and are no more (with a FAULT neither): how many STATEMENTS; the FAULT (nothing is "
            + "counted).");
        String[] faults = {"", "x", "p", "d00;", "u0;", "t1000;", "pp000;t0000;", "pp000;t1000;t1000;", "d60;d61;"};
        int[] due = {-1000, -1000, -1001, -2000, -2000, -2000, -2006, -2012, -2004};
        LeansAgainstReason x = none();
        x.row(5);
        x.image();
        for (int i = 0; i < faults.length; i++) {
            is(told(x, faults[i]), due[i]);
            for (int what = 0; what <= 5; what++) {
                is(x.count(what), 0);
            }
            is(x.count(6), 1);
            is(x.count(7), 0);
            for (int what = 11; what <= 16; what++) {
                is(x.count(what), 0);
            }
        }
        // The image stays as it was, whatever is told.
        is(told(x, "pp000;d07;"), 2);
        is(x.on(), 0);
        is(x.count(0), 0);
    }

    // ---- what there is now ----

    private static void purpose() {
        of(4);
        says("Of a PURPOSE: 0 KIND (0 p, 1 h, 2 v, 3 o, 4 w, 5 l), 1 FIGURE, 2 STRENGTH, 3 LOAD, 4 by how much it is less on "
            + "the next DAY.");
        for (int kind = 0; kind < 6; kind++) {
            LeansAgainstReason x = rack("p" + "phvowl".charAt(kind) + "000;p" + "phvowl".charAt(kind) + "999;t9001;t8021;");
            is(x.purpose(0, 0), kind);
            is(x.purpose(1, 0), kind);
            is(x.purpose(0, 1), 0);
            is(x.purpose(1, 1), 9);
            is(x.purpose(0, 2), 0);
            is(x.purpose(1, 2), 99);
            is(x.purpose(0, 3), 0);
            is(x.purpose(1, 3), 17);
            is(x.purpose(0, 4), new int[] {1, 1, 1, 1, 1, 0}[kind]);
            is(x.purpose(1, 4), new int[] {1, 0, 0, 3, 10, 20}[kind]);
        }
        LeansAgainstReason y = late("ph950;ph850;");
        // Day 1000: 10 divides it, 9 does not.
        is(y.purpose(0, 4), 1);
        is(y.purpose(1, 4), 0);
    }

    private static void spareAndThing() {
        of(5);
        says("SPARE.");
        LeansAgainstReason x = rack("pp000;pp099;", "t9000;t9020;t9040;t9060;t9080;t9100;t9120;t9140;t9160;t9180;");
        is(x.spare(0), -90);
        is(x.spare(1), 99);
        x.strong(0, 90);
        is(x.spare(0), 0);
        x.strong(0, 89);
        is(x.spare(0), -1);
        of(6);
        says("Of a THING: 0 WEIGHT, 1 PLACE, 2 the PURPOSE, 3 UP (1, 0).");
        LeansAgainstReason y = rack("pp099;pp099;pp099;pp099;pp099;t1000;t9194;");
        int[][] due = {{1, 0, 0, 1}, {9, 19, 4, 1}};
        for (int t = 0; t < 2; t++) {
            for (int what = 0; what < 4; what++) {
                is(y.thing(t, what), due[t][what]);
            }
        }
        y.pushes(1);
        is(y.thing(1, 3), 0);
        is(y.thing(0, 3), 1);
        is(y.thing(1, 0), 9);
        is(y.thing(1, 1), 19);
        is(y.thing(1, 2), 4);
    }

    private static void at() {
        of(7);
        says("The THING in a PLACE; -9.");
        LeansAgainstReason x = rack("pp099;t1000;t1190;t1070;");
        for (int place = 0; place < 20; place++) {
            is(x.at(place), place == 0 ? 0 : place == 19 ? 1 : place == 7 ? 2 : -9);
        }
        x.pushes(2);
        is(x.at(7), 2);
        x.moves(2, 8);
        is(x.at(7), -9);
        is(x.at(8), 2);
        is(x.count(11), 0);
    }

    // ---- what changes it ----

    private static void leans() {
        of(8);
        says("It LEANS on a PURPOSE: on which it did.");
        LeansAgainstReason x = rack("pp099;pp099;pp099;pp099;pp099;t9000;");
        is(x.leans(0, 4), 0);
        is(x.leans(0, 4), 4);
        is(x.purpose(4, 3), 9);
        is(x.purpose(0, 3), 0);
        is(x.leans(0, 0), 4);
        is(x.purpose(4, 3), 0);
        // Leaning fells nothing by itself.
        x.strong(1, 0);
        is(x.leans(0, 1), 0);
        is(x.count(3), 1);
        is(x.spare(1), -9);
        x.pushes(0);
        is(x.leans(0, 2), 1);
        is(x.thing(0, 3), 0);
        is(x.count(5), 0);
    }

    private static void moves() {
        of(9);
        says("It is in a PLACE: where it was.");
        LeansAgainstReason x = rack("pp099;t5000;t5010;");
        is(x.moves(0, 0), 0);
        is(x.moves(0, 19), 0);
        is(x.moves(0, 19), 19);
        is(x.at(0), -9);
        is(x.moves(1, 0), 1);
        is(x.moves(0, 1), 19);
        is(x.pushed(1), 3);
        x.pushes(0);
        is(x.moves(0, 18), 1);
        is(x.thing(0, 3), 0);
        is(x.count(5), 5);
    }

    private static void setsUp() {
        of(10);
        says("It is UP: 1, 0 it was already.");
        LeansAgainstReason x = rack("pp000;t5000;t4010;");
        is(x.setsUp(0), 0);
        is(x.count(5), 9);
        x.pushes(0);
        is(x.count(5), 0);
        is(x.setsUp(0), 1);
        is(x.setsUp(0), 0);
        is(x.count(3), 1);
        is(x.count(5), 5);
        is(x.setsUp(1), 1);
        is(x.count(3), 3);
        is(x.spare(0), -9);
        is(x.count(11) + x.count(13), 0);
    }

    private static void pushes() {
        of(11);
        says("A FALL: how many are DOWN by it.");
        is(rack("pp000;t1190;").pushes(0), 1);
        LeansAgainstReason x = rack("pp099;pp099;", "t9101;t9110;t9121;t9130;t9141;t9150;t9161;t9170;t9181;t9190;");
        is(x.pushes(5), 5);
        is(x.count(3), 31);
        is(x.purpose(0, 3), 18);
        is(x.purpose(1, 3), 27);
        is(x.pushes(4), 1);
        is(x.pushes(0), 4);
        is(x.count(3), 0);
        is(x.count(5), 0);
        is(x.count(2), 0);
        is(x.count(4), 198);
    }

    private static void strong() {
        of(12);
        says("STRENGTH becomes v: what it was.");
        LeansAgainstReason x = rack("pp050;t9000;");
        is(x.strong(0, 0), 50);
        is(x.spare(0), -9);
        is(x.count(3), 1);
        is(x.strong(0, 0), 0);
        is(x.strong(0, 99), 0);
        is(x.strong(0, 98), 99);
        is(x.purpose(0, 2), 98);
        is(x.count(4), 98);
    }

    private static void turn() {
        of(13);
        says("KIND, FIGURE become others: 10 times the KIND and the FIGURE it had.");
        LeansAgainstReason x = rack("pp099;t1000;");
        is(x.turn(0, 5, 9), 0);
        is(x.purpose(0, 4), 20);
        is(x.turn(0, 5, 0), 59);
        is(x.turn(0, 0, 9), 50);
        is(x.purpose(0, 4), 1);
        is(x.turn(0, 0, 9), 9);
        is(x.turn(0, 1, 2), 9);
        is(x.turn(0, 4, 3), 12);
        is(x.purpose(0, 0), 4);
        is(x.purpose(0, 1), 3);
        is(x.purpose(0, 2), 99);
        is(x.purpose(0, 3), 1);
    }

    private static void days() {
        of(14);
        says("n DAYS (1 .. 60) go by: how many are UP.");
        LeansAgainstReason x = rack("pp060;t1000;t9040;");
        is(x.days(1), 2);
        is(x.days(49), 2);
        is(x.days(1), 1);
        is(x.count(3), 1);
        is(x.count(2), 51);
        is(x.days(60), 0);
        is(x.count(2), 111);
        is(none().days(1), 0);
        is(none().days(60), 0);
        is(rack("ph999;t9000;").days(60), 1);
        says("-4; -6 (60; DAY above 999).");
        LeansAgainstReason y = late();
        is(y.days(1), -6);
        is(y.days(60), -6);
        is(y.days(0), -4);
        LeansAgainstReason z = none();
        for (int i = 0; i < 16; i++) {
            is(z.days(60), 0);
        }
        is(z.days(60), -6);
        is(z.days(40), -6);
        is(z.days(39), 0);
        is(z.count(2), 999);
        LeansAgainstReason w = none();
        for (int i = 0; i < 19; i++) {
            w.days(52);
        }
        is(w.days(12), -6);
        is(w.days(11), 0);
        is(w.count(2), 999);
    }

    // ---- days in mind ----

    private static void then() {
        of(15);
        says("UP: 1, 0.");
        LeansAgainstReason x = rack("pp010;t9000;t1190;");
        is(x.upThen(0, 0), 1);
        is(x.upThen(0, 1), 0);
        is(x.upThen(0, 99), 0);
        is(x.upThen(1, 9), 1);
        x.pushes(1);
        is(x.upThen(0, 1), 1);
        is(x.upThen(0, 2), 0);
        is(x.upThen(1, 0), 0);
        is(x.upThen(1, 99), 0);
        of(16);
        says("How many are UP.");
        is(none().allThen(0), 0);
        is(x.allThen(0), 1);
        is(x.allThen(1), 1);
        is(x.allThen(2), 0);
        is(rack("ph999;", TEN).allThen(99), 10);
        is(rack("pp000;", TEN).allThen(0), 10);
        is(rack("pp000;", TEN).allThen(9), 1);
        is(rack("pp000;", TEN).allThen(10), 0);
    }

    private static void purposeThen() {
        of(17);
        says("STRENGTH (what 0), LOAD (1).");
        LeansAgainstReason x = rack("pp010;pl099;t9000;t1190;");
        is(x.purposeThen(0, 0, 0), 10);
        is(x.purposeThen(0, 0, 1), 10);
        is(x.purposeThen(0, 1, 0), 9);
        is(x.purposeThen(0, 1, 1), 1);
        is(x.purposeThen(0, 9, 1), 1);
        is(x.purposeThen(0, 10, 1), 0);
        is(x.purposeThen(0, 99, 0), 0);
        is(x.purposeThen(1, 99, 0), 99);
        is(x.purposeThen(1, 99, 1), 0);
    }

    private static void falls() {
        of(18);
        says("FALLS; -9.");
        LeansAgainstReason x = rack("pp099;ph199;t1000;t1021;");
        is(x.falls(0), 99);
        is(x.falls(1), -9);
        x.strong(0, 0);
        is(x.falls(0), 1);
        x.pushes(0);
        is(x.falls(0), 0);
        is(x.count(11), 0);
    }

    private static void first() {
        of(19);
        says("FIRST: which (what 0; -9), when (1; -9), ALL UP (2), FLAT (3; -9).");
        int[][] due = {{-9, -9, 99, 0}, {0, 99, 98, 99}, {-9, -9, 99, -9}, {1, 1, 0, -9}};
        LeansAgainstReason[] racks = {none(), rack("pp099;t1000;"), rack("ph199;t1000;"),
            rack("ph199;pp000;t1000;t1021;")};
        for (int i = 0; i < 4; i++) {
            for (int what = 0; what < 4; what++) {
                is(racks[i].first(what), due[i][what]);
            }
        }
    }

    // ---- pushes in mind ----

    private static void pushedAndWorst() {
        of(20);
        says("PUSHED (bits).");
        LeansAgainstReason x = rack("pp099;t1190;t1180;t1000;");
        is(x.pushed(0), 1);
        is(x.pushed(1), 3);
        is(x.pushed(2), 4);
        is(x.count(3), 7);
        of(21);
        says("WORST PUSH: which (what 0; -9), how many (1; -9).");
        is(x.worst(0), 1);
        is(x.worst(1), 2);
        x.pushes(0);
        is(x.worst(0), 2);
        is(x.worst(1), 1);
        x.pushes(1);
        x.pushes(2);
        is(x.worst(0), -9);
        is(x.worst(1), -9);
        is(rack("pp099;").worst(1), -9);
        is(x.count(12), 0);
    }

    private static void gapAndLongest() {
        of(22);
        says("GAP; -9.");
        LeansAgainstReason x = rack("pp099;t3170;t3180;t3190;t3000;");
        is(x.gap(0), 1);
        is(x.gap(1), -9);
        is(x.gap(2), -9);
        is(x.gap(3), -9);
        is(x.count(3), 15);
        of(23);
        says("LONGEST: how many (what 0), the first PLACE (1; -9).");
        is(x.longest(0), 3);
        is(x.longest(1), 17);
        x.pushes(1);
        is(x.longest(0), 1);
        is(x.longest(1), 0);
        x.pushes(3);
        is(x.longest(1), 17);
        x.pushes(0);
        is(x.longest(0), 0);
        is(x.longest(1), -9);
    }

    // ---- what had better be ----

    private static void lean() {
        of(24);
        says("LEAN; -9.");
        is(none().lean(0), -1);
        LeansAgainstReason x = rack("pp001;pp001;pp002;pp003;pp003;t1000;");
        is(x.lean(0), 3);
        is(x.thing(0, 2), 0);
        is(x.purpose(0, 3), 1);
        x.strong(3, 0);
        is(x.lean(0), 4);
        x.strong(4, 0);
        is(x.lean(0), 2);
    }

    private static void bestLeans() {
        of(25);
        says("BEST LEANS: 100 times the first's .. (what 0; -9), how many (1; -9).");
        LeansAgainstReason x = rack("pv900;pv900;pv900;pv900;pv909;t9000;t9020;t9040;");
        is(x.bestLeans(0, 1, 2, 0, 0), 0);
        is(x.bestLeans(0, 1, 2, 0, 1), 3);
        // One 9 stands: the first with this, in the told order, is the third one told on 4.
        is(x.bestLeans(0, 1, 2, 9, 0), 4);
        is(x.bestLeans(2, 1, 0, 9, 0), 4);
        is(x.bestLeans(0, 1, 2, 9, 1), 1);
        x.strong(3, 9);
        is(x.bestLeans(0, 1, 2, 9, 0), 34);
        x.strong(2, 9);
        is(x.bestLeans(0, 1, 2, 9, 0), 234);
        x.strong(2, 0);
        x.strong(4, 0);
        is(x.bestLeans(0, 1, 2, 9, 0), 3);
        is(x.bestLeans(0, 1, 2, 9, 1), 1);
        x.strong(3, 0);
        x.strong(4, 99);
        is(x.bestLeans(0, 1, 2, 20, 0), 444);
        is(x.bestLeans(0, 1, 2, 20, 1), 3);
        is(x.thing(0, 2) + x.thing(1, 2) + x.thing(2, 2), 0);
    }

    private static void mendedAndKey() {
        of(26);
        says("MENDED; -9.");
        LeansAgainstReason x = rack("pp000;pv900;pv900;t1001;t1022;t1042;");
        is(x.mended(0), -9);
        is(x.mended(1), 1);
        is(x.mended(2), 2);
        is(x.mended(99), 2);
        is(x.count(4), 0);
        of(27);
        says("KEY; -9.");
        is(x.key(1), -9);
        LeansAgainstReason y = rack("pp099;pv999;pv999;t1001;t1022;t1042;");
        is(y.key(0), -9);
        is(y.key(1), 1);
        is(y.key(2), 2);
        is(y.key(99), 2);
        is(y.count(4), 297);
    }

    private static void takesAndBalanced() {
        of(28);
        says("TAKES; -9.");
        LeansAgainstReason x = rack("pp018;t9000;");
        is(x.takes(0, 0), 9);
        is(x.takes(0, 1), 8);
        is(x.takes(0, 9), 0);
        is(x.takes(0, 10), 8);
        is(x.takes(0, 99), 0);
        x.strong(0, 8);
        is(x.takes(0, 0), -9);
        of(29);
        says("BALANCED: which (what 0, bits), how many (1).");
        is(x.balanced(0, 0), 0);
        is(x.balanced(0, 1), 0);
        x.strong(0, 9);
        is(x.balanced(0, 0), 1);
        is(x.balanced(0, 1), 1);
        // It need not lean on it.
        LeansAgainstReason y = rack("pp001;pp000;t1001;t1011;");
        is(y.balanced(0, 0), 1);
        y.pushes(1);
        y.strong(0, 99);
        is(y.balanced(0, 0), 1);
        y.setsUp(1);
        is(y.balanced(0, 0), 3);
    }

    // ---- those who push ----

    private static void thiefAndRobbed() {
        of(30);
        says("THIEF: how many are UP.");
        LeansAgainstReason x = rack("pv901;pv902;t1000;t1021;t1041;");
        is(x.thief(0), 3);
        is(x.thief(1), 2);
        is(x.thief(2), 1);
        // 1 on 2 from then on, until day 10.
        is(x.thief(10), 1);
        is(x.thief(11), 0);
        is(x.thief(99), 0);
        is(x.count(3), 7);
        of(31);
        says("THIEF: behind how many DAYS there is nothing more; -9.");
        is(x.robbed(), 2);
        x.pushes(0);
        is(x.robbed(), 1);
        x.pushes(1);
        is(x.robbed(), 0);
        x.pushes(2);
        is(x.robbed(), 0);
    }

    private static void bestPlace() {
        of(32);
        says("MOVE: the PLACE (what 0), how many (1).");
        // Every other place is taken by a 1: wherever a 1 goes, one is behind it, but in 19.
        LeansAgainstReason x = rack("pp099;", "t1010;t1030;t1050;t1070;t1090;t1110;t1130;t1150;t1170;t1180;");
        // From 1 away, 0 has none behind it, too.
        is(x.bestPlace(0, 0), 0);
        is(x.moves(0, 2), 1);
        is(x.bestPlace(1, 0), 0);
        is(x.moves(0, 0), 2);
        // 1 (then 2 free) has none behind it.
        is(x.bestPlace(1, 0), 1);
        is(x.bestPlace(9, 0), 1);
        x.moves(1, 1);
        is(x.bestPlace(9, 0), 2);
        is(x.bestPlace(9, 1), 1);
        is(x.bestPlace(0, 0), 2);
        LeansAgainstReason y = rack("pp099;", "t1000;t1020;t1040;t1060;t1080;t1100;t1120;t1140;t1160;t1180;");
        is(y.bestPlace(9, 0), 17);
        is(y.bestPlace(9, 1), 1);
        is(y.bestPlace(0, 0), 0);
        is(y.bestPlace(1, 0), 1);
        is(y.count(3), 1023);
    }

    private static void draught() {
        of(33);
        says("DRAUGHT, part 0 above, 1 below the line.");
        LeansAgainstReason x = rack("pv999;t5000;t5100;");
        is(x.draught(0, 0, 2, 0), 1);
        is(x.draught(0, 0, 2, 1), 1);
        is(x.draught(0, 7, 2, 0), 1);
        is(x.draught(0, 7, 2, 1), 128);
        is(x.draught(1, 7, 2, 0), 1);
        is(x.draught(1, 7, 2, 1), 16);
        is(x.draught(0, 1, 20, 0), 19);
        is(x.draught(0, 1, 20, 1), 20);
        is(x.draught(1, 1, 20, 1), 1);
        x.pushes(0);
        is(x.draught(0, 7, 20, 0), 0);
        is(x.draught(0, 7, 20, 1), 1);
        is(x.draught(1, 1, 20, 0), 19);
    }

    private static void two() {
        of(34);
        says("TWO; -9.");
        LeansAgainstReason x = rack("pv999;t5000;t5190;");
        is(x.two(0, 1, 0), 1);
        is(x.two(1, 0, 99), 1);
        x.pushes(0);
        is(x.two(0, 1, 0), 1);
        is(x.two(1, 0, 0), 0);
        x.pushes(1);
        is(x.two(0, 1, 99), 0);
        LeansAgainstReason y = rack("pv910;pv999;t1190;t1170;t9000;t1011;t1021;");
        is(y.two(0, 1, 1), -9);
        is(y.count(3), 31);
        is(y.count(11), 0);
    }

    // ---- the row ----

    private static void whatWas() {
        of(35);
        says("WHAT IT WAS by the ROW (it stays): KINDS (what 0, bits), FIGURES (1).");
        LeansAgainstReason x = rack("pp020;pw520;");
        is(x.whatWas(0, 0), 63);
        is(x.whatWas(0, 1), 1023);
        row(x, 20, 19);
        is(x.whatWas(0, 0), 1 + 2 + 4 + 8 + 16);
        is(x.whatWas(0, 1), 1023);
        // A purpose, or an oath of a third of 5.
        is(x.whatWas(1, 0), 1 + 8);
        is(x.whatWas(1, 1), 1);
        row(x, 20, 14);
        is(x.whatWas(1, 0), 16);
        is(x.whatWas(1, 1), 32);
        is(x.whatWas(0, 1), 0);
        is(x.count(6), 2);
        is(x.clear(), 2);
        is(x.purpose(1, 0), 4);
        is(x.purpose(1, 1), 5);
    }

    private static void row() {
        of(36);
        says("A number more of the ROW (0 .. 99): how many.");
        LeansAgainstReason x = none();
        for (int i = 1; i <= 16; i++) {
            is(x.row(i % 2 == 0 ? 0 : 99), i);
            is(x.count(6), i);
        }
        is(x.row(0), -6);
        is(x.row(99), -6);
        is(x.count(6), 16);
        is(x.clear(), 16);
        is(x.row(0), 1);
    }

    private static void judge() {
        of(37);
        says("JUDGED; -9 (whichever it answers, the ROW has none then).");
        LeansAgainstReason x = rack("pp000;t1000;");
        is(x.judge(), -9);
        is(x.count(6), 0);
        row(x, 1, 0, 0);
        is(x.judge(), -9);
        is(x.count(6), 0);
        is(x.row(1), 1);
        is(x.row(1), 2);
        is(x.judge(), 1);
        is(x.count(6), 0);
        row(x, 0);
        is(x.judge(), 0);
        is(x.count(6), 0);
        is(x.judge(), -9);
        is(x.row(7), 1);
        is(x.count(2), 0);
    }

    private static void clear() {
        of(38);
        says("The ROW has none then: how many it had.");
        LeansAgainstReason x = none();
        is(x.clear(), 0);
        is(x.row(9), 1);
        is(x.clear(), 1);
        is(x.clear(), 0);
        is(x.judge(), -9);
        row(x, 0, 0, 0, 0, 0, 0, 0, 0, 0, 0, 0, 0, 0, 0, 0, 0);
        is(x.clear(), 16);
        is(x.count(6), 0);
    }

    // ---- lots, the image, counts ----

    private static void lots() {
        of(39);
        says("LOTS: how many are UP (what 0), STRENGTHS (1).");
        LeansAgainstReason x = rack("ph999;");
        is(x.lots(1, 0, 0), 0);
        is(x.lots(1, 0, 1), 97);
        is(x.lots(20, LEAST, 1), 1940);
        is(x.lots(20, MOST, 0), 0);
        told(x, "t1000;");
        is(x.lots(1, -1, 0), 1);
        is(x.lots(20, -1, 0), 20);
        is(x.count(2), 0);
        is(x.purpose(0, 2), 99);
    }

    private static void image() {
        of(40);
        says("THE IMAGE is taken: DAY.");
        LeansAgainstReason x = none();
        is(x.image(), 0);
        is(x.days(60), 0);
        is(x.image(), 60);
        is(x.image(), 60);
        is(x.days(1), 0);
        is(x.on(), 60);
        is(late().image(), 999);
        is(x.count(13), 0);
    }

    private static void on() {
        of(41);
        says("ON from it: DAY.");
        LeansAgainstReason x = rack("pp020;t5000;t5010;d03;");
        x.image();
        // More than there were, then as then: the next ones told have the same numbers again.
        told(x, "ph333;t1191;");
        is(x.on(), 3);
        is(x.count(0), 1);
        is(x.count(1), 2);
        is(x.at(19), -9);
        is(x.thing(2, 0), -1);
        is(x.purpose(1, 0), -1);
        is(told(x, "pl044;t2191;"), 2);
        is(x.purpose(1, 0), 5);
        is(x.thing(2, 0), 2);
        x.pushes(0);
        x.moves(1, 9);
        x.leans(1, 1);
        x.turn(0, 5, 5);
        is(x.on(), 3);
        is(x.count(3), 3);
        is(x.at(1), 1);
        is(x.at(9), -9);
        is(x.thing(1, 2), 0);
        is(x.purpose(0, 0), 0);
        is(x.purpose(0, 3), 10);
        is(x.count(5), 10);
    }

    private static void count() {
        of(42);
        says("0 PURPOSES, 1 THINGS, 2 DAY, 3 UP ones (bits), 4 all STRENGTH, 5 all LOAD, 6 in the ROW, 7 letters, 11 .. 16 "
            + "REFUSALS -1 .. -6.");
        LeansAgainstReason x = rack("pv999;pv999;pv999;pv999;pv999;",
            "t9000;t9021;t9042;t9063;t9084;t9100;t9121;t9142;t9163;t9184;");
        int[] due = {5, 10, 0, 1023, 495, 90, 0, 0};
        for (int what = 0; what < 8; what++) {
            is(x.count(what), due[what]);
        }
        x.pushes(9);
        is(x.count(3), 511);
        is(x.count(5), 81);
        x.strong(0, 0);
        is(x.count(4), 396);
        says("-9 for another what.");
        int[] others = {-1, 8, 9, 10, 17, 18, 32, 256, -9, -16, LEAST, MOST};
        for (int other : others) {
            is(x.count(other), -9);
        }
        for (int what = 11; what <= 16; what++) {
            is(x.count(what), 0);
        }
    }
}
