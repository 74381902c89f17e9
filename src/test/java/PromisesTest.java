/** Each promise by hand-worked answers: ordinary inputs, edges, refusals in their order. */
public final class PromisesTest {
    private static final int LEAST = Integer.MIN_VALUE;
    private static final int MOST = Integer.MAX_VALUE;
    private static final long LONG = 4000000000000000000L;

    public static void main(String[] args) {
        newObject();
        letter();
        faultsOfLetters();
        faultsOfStatements();
        statements();
        purpose();
        kinds();
        spare();
        thing();
        at();
        leans();
        moves();
        setsUp();
        pushes();
        strong();
        turn();
        days();
        dayOrder();
        upThen();
        allThen();
        purposeThen();
        falls();
        first();
        pushed();
        worst();
        gap();
        longest();
        lean();
        bestLeans();
        mended();
        key();
        takes();
        balanced();
        thief();
        robbed();
        bestPlace();
        draught();
        two();
        whatWas();
        row();
        judge();
        clear();
        lots();
        image();
        on();
        count();
        readme();
        Due.end("PromisesTest");
    }

    // README.md's example
    private static void readme() {
        LeansAgainstReason x = Due.rack("pp030;t5000;t4010;");
        Due.is("spare", x.spare(0), 21);
        Due.is("falls", x.falls(0), 22);
        Due.is("allThen", x.allThen(22), 0);
        Due.is("days", x.days(21), 2);
        Due.is("no thing 3", x.upThen(3, 1), -1);
        Due.is("refusals -1", x.count(11), 1);
    }

    // Promise 1
    private static void newObject() {
        LeansAgainstReason x = new LeansAgainstReason();
        for (int what = 0; what <= 7; what++) {
            Due.is("1 count " + what, x.count(what), 0);
        }
        for (int place = 0; place < 20; place++) {
            Due.is("1 at " + place, x.at(place), -9);
        }
        Due.is("1 on", x.on(), -3);
    }

    // Promise 2
    private static void letter() {
        LeansAgainstReason x = new LeansAgainstReason();
        Due.is("2 -1", x.letter(-1), -4);
        Due.is("2 least", x.letter(LEAST), -4);
        Due.is("2 256", x.letter(256), -6);
        Due.is("2 most", x.letter(MOST), -6);
        Due.is("2 0", x.letter(0), 1);
        Due.is("2 255", x.letter(255), 2);
        for (int i = 3; i <= 96; i++) {
            Due.is("2 letter " + i, x.letter('p'), i);
        }
        Due.is("2 full", x.letter('p'), -6);
        Due.is("2 full, below", x.letter(-1), -4);
        Due.is("2 how many", x.count(7), 96);
        Due.is("2 refused below", x.count(14), 3);
        Due.is("2 refused room", x.count(16), 3);
    }

    private static void fault(String text, int want) {
        LeansAgainstReason x = new LeansAgainstReason();
        Due.is("3 " + text, Due.told(x, text), want);
        for (int what = 0; what <= 16; what++) {
            Due.is("3 " + text + " leaves count " + what, x.count(what), what >= 8 && what <= 10 ? -9 : 0);
        }
    }

    // Promise 3
    private static void faultsOfLetters() {
        fault("", -1000);
        fault("x", -1000);
        fault(";", -1000);
        fault("P", -1000);
        fault("\u00f0", -1000);
        fault("p", -1001);
        fault("px000;", -1001);
        fault("p0", -1001);
        fault("pp", -1002);
        fault("ppp", -1002);
        fault("pp0/0;", -1003);
        fault("pp0:0;", -1003);
        fault("pp00;", -1004);
        fault("pp000", -1005);
        fault("pp000 ", -1005);
        fault("pp000;;", -1006);
        fault("pp000;p", -1007);
        fault("t", -1001);
        fault("t1000", -1005);
        fault("t10000;", -1005);
        fault("l0;", -1002);
        fault("l000;", -1003);
        fault("u;", -1001);
        fault("u00;", -1002);
        fault("s00;", -1003);
        fault("s000", -1004);
        fault("d0;", -1002);
        fault("d000;", -1003);
        fault("d00", -1003);
        // A letter that fits nowhere goes ahead of a statement that is not as it must be.
        fault("t1000;x", -1006);
        fault("d00;d0", -1006);
        StringBuilder long96 = new StringBuilder();
        while (long96.length() < 96) {
            long96.append("u0;");
        }
        fault(long96.toString(), -2000);
        fault("pp000;" + long96.substring(0, 90), -2006);
        fault("d01;d0" + long96.substring(0, 90), -1006);
        fault(long96.substring(0, 95) + "u", -1095);
        fault("d01;" + long96.substring(0, 92), -1096);
    }

    private static void faultsOfStatements() {
        fault("t1000;", -2000);
        fault("l00;", -2000);
        fault("u0;", -2000);
        fault("s000;", -2000);
        fault("d00;", -2000);
        fault("d61;", -2000);
        fault("d99;", -2000);
        fault("pp000;t0000;", -2006);
        fault("pp000;t1200;", -2006);
        fault("pp000;t1990;", -2006);
        fault("pp000;t1001;", -2006);
        fault("pp000;t1000;t1000;", -2012);
        fault("pp000;t1000;l10;", -2012);
        fault("pp000;t1000;l01;", -2012);
        fault("pp000;t1000;u1;", -2012);
        fault("pp000;s100;", -2006);
        fault("pp000;d01;d00;t1000;", -2010);
        fault("pp000;pp000;pp000;pp000;pp000;pp000;", -2030);
        fault("t1000;pp000;", -2000);
        LeansAgainstReason x = Due.rack("pp999;", "t1000;t1010;t1020;t1030;t1040;t1050;t1060;t1070;t1080;t1090;");
        Due.is("3 no room for an 11th", Due.told(x, "d01;t1150;"), -2004);
        Due.is("3 nothing came", x.count(2), 0);
        Due.is("3 as many things", x.count(1), 10);
        Due.is("3 taken by one that is down", x.pushes(0), 10);
        LeansAgainstReason y = Due.rack("pp999;t1000;");
        y.pushes(0);
        Due.is("3 a down one takes its place", Due.told(y, "t1000;"), -2000);
        for (int i = 0; i < 16; i++) {
            y.days(60);
        }
        Due.is("3 day 960", y.count(2), 960);
        Due.is("3 above 999", Due.told(y, "d40;"), -2000);
        Due.is("3 above 999 together", Due.told(y, "d20;d20;"), -2004);
        Due.is("3 up to 999", Due.told(y, "d20;d19;"), 2);
        Due.is("3 day 999", y.count(2), 999);
        Due.is("3 none beyond", Due.told(y, "d01;"), -2000);
    }

    private static void statements() {
        Due.is("3 60 days", Due.told(new LeansAgainstReason(), "d60;"), 1);
        LeansAgainstReason x = new LeansAgainstReason();
        Due.is("3 all kinds", Due.told(x, "pp030;ph212;pv360;po745;pw209;"), 5);
        int[] tens = {0, 12, 23, 37, 42};
        int[] strengths = {30, 12, 60, 45, 9};
        for (int p = 0; p < 5; p++) {
            Due.is("3 kind and figure", 10 * x.purpose(p, 0) + x.purpose(p, 1), tens[p]);
            Due.is("3 strength", x.purpose(p, 2), strengths[p]);
        }
        Due.is("3 things", Due.told(x, "t5000;t9194;l01;s199;"), 4);
        Due.is("3 weight", x.thing(1, 0), 9);
        Due.is("3 place", x.thing(1, 1), 19);
        Due.is("3 its purpose", x.thing(1, 2), 4);
        Due.is("3 up at first", x.thing(1, 3), 1);
        Due.is("3 leans now", x.thing(0, 2), 1);
        Due.is("3 strength now", x.purpose(1, 2), 99);
        Due.is("3 letters are no more", x.count(7), 0);
        Due.is("3 days", Due.told(x, "d02;"), 1);
        Due.is("3 day 2", x.count(2), 2);
        Due.is("3 the whim's one fell", x.thing(1, 3), 0);
        Due.is("3 set up", Due.told(x, "u1;u0;"), 2);
        Due.is("3 both up", x.count(3), 3);
        Due.is("3 a lie", Due.told(Due.rack("pp000;"), "pl900;"), 1);
        LeansAgainstReason y = Due.rack("pl912;");
        Due.is("3 lie", y.purpose(0, 0), 5);
        Due.is("3 days see what is told ahead", Due.told(y, "t1000;d01;t1010;d01;"), 4);
        // The lie had 12, was leant on from the first: 20 less.
        Due.is("3 strength 0", y.purpose(0, 2), 0);
        Due.is("3 both fell", y.count(3), 0);
    }

    // Promise 4
    private static void purpose() {
        LeansAgainstReason x = Due.rack("ph455;t3000;t4020;");
        Due.is("4 kind", x.purpose(0, 0), 1);
        Due.is("4 figure", x.purpose(0, 1), 4);
        Due.is("4 strength", x.purpose(0, 2), 55);
        Due.is("4 load", x.purpose(0, 3), 7);
        Due.is("4 less", x.purpose(0, 4), 0);
        x.pushes(0);
        Due.is("4 load of those up", x.purpose(0, 3), 4);
        Due.is("4 nobody", x.purpose(1, 0), -1);
        Due.is("4 nobody ahead of other", x.purpose(-1, 9), -1);
        Due.is("4 least", x.purpose(LEAST, 0), -1);
        Due.is("4 other", x.purpose(0, 5), -2);
        Due.is("4 other below", x.purpose(0, -1), -2);
    }

    private static void less(String purpose, int days, int want, int strength) {
        LeansAgainstReason x = Due.rack(purpose);
        for (int i = 0; i < days; i++) {
            x.days(1);
        }
        Due.is("4 next day of " + purpose + " behind " + days, x.purpose(0, 4), want);
        Due.is("4 strength of " + purpose + " behind " + days, x.purpose(0, 2), strength);
    }

    private static void kinds() {
        less("pp920;", 0, 1, 20);
        less("pp920;", 19, 1, 1);
        less("pp920;", 25, 1, 0);
        less("ph010;", 0, 1, 10);
        less("ph210;", 1, 0, 10);
        less("ph210;", 2, 1, 10);
        less("ph210;", 3, 0, 9);
        less("ph210;", 9, 0, 7);
        less("pv052;", 0, 0, 52);
        less("pv050;", 7, 0, 50);
        less("pv049;", 0, 1, 49);
        less("pv149;", 2, 0, 48);
        less("pv149;", 3, 1, 48);
        less("po752;", 0, 2, 52);
        less("po052;", 0, 0, 52);
        less("po251;", 0, 0, 51);
        less("po351;", 1, 1, 50);
        less("po351;", 2, 1, 49);
        // Figure 3: every 4th day one more than the 1 of its own, below 50.
        less("po351;", 3, 2, 48);
        less("po351;", 4, 1, 46);
        less("po949;", 9, 4, 22);
        less("pw009;", 0, 1, 9);
        less("pw209;", 2, 3, 3);
        less("pw209;", 4, 3, 0);
        less("pl209;", 5, 0, 9);
        less("pl260;t1000;", 5, 6, 30);
        less("pl005;t1000;", 2, 2, 1);
        less("pl005;t1000;", 3, 0, 0);
    }

    // Promise 5
    private static void spare() {
        LeansAgainstReason x = Due.rack("pp005;t9000;");
        Due.is("5 below 0", x.spare(0), -4);
        x.strong(0, 99);
        Due.is("5 spare", x.spare(0), 90);
        x.pushes(0);
        Due.is("5 without the fallen", x.spare(0), 99);
        Due.is("5 nobody", x.spare(1), 1000000001);
        Due.is("5 nobody below", x.spare(-1), 1000000001);
        Due.is("5 counted", x.count(11), 2);
    }

    // Promise 6
    private static void thing() {
        LeansAgainstReason x = Due.rack("pp099;pp099;t7191;");
        int[] want = {7, 19, 1, 1};
        for (int what = 0; what < 4; what++) {
            Due.is("6 what " + what, x.thing(0, what), want[what]);
        }
        x.pushes(0);
        Due.is("6 down", x.thing(0, 3), 0);
        Due.is("6 nobody", x.thing(1, 0), -1);
        Due.is("6 nobody ahead of other", x.thing(-1, 4), -1);
        Due.is("6 other", x.thing(0, 4), -2);
        Due.is("6 other below", x.thing(0, -1), -2);
    }

    // Promise 7
    private static void at() {
        LeansAgainstReason x = Due.rack("pp099;t7190;t1000;");
        Due.is("7 at 19", x.at(19), 0);
        Due.is("7 at 0", x.at(0), 1);
        Due.is("7 free", x.at(1), -9);
        x.pushes(0);
        Due.is("7 a down one is there", x.at(19), 0);
        Due.is("7 20", x.at(20), -1);
        Due.is("7 -1", x.at(-1), -1);
        Due.is("7 most", x.at(MOST), -1);
    }

    // Promise 8
    private static void leans() {
        LeansAgainstReason x = Due.rack("pp050;pp060;t7000;t2020;");
        Due.is("8 before", x.leans(0, 1), 0);
        Due.is("8 now", x.thing(0, 2), 1);
        Due.is("8 load gone", x.purpose(0, 3), 2);
        Due.is("8 load come", x.purpose(1, 3), 7);
        Due.is("8 again", x.leans(0, 1), 1);
        Due.is("8 load once", x.purpose(1, 3), 7);
        x.pushes(1);
        Due.is("8 a down one", x.leans(1, 1), 0);
        Due.is("8 without load", x.purpose(1, 3), 7);
        x.setsUp(1);
        Due.is("8 load of its new one", x.purpose(1, 3), 9);
        Due.is("8 no purpose", x.leans(0, 2), -1);
        Due.is("8 no thing", x.leans(2, 0), -1);
        Due.is("8 below", x.leans(-1, -1), -1);
    }

    // Promise 9
    private static void moves() {
        LeansAgainstReason x = Due.rack("pp050;t7000;t2020;");
        Due.is("9 from 0", x.moves(0, 19), 0);
        Due.is("9 from 19", x.moves(0, 5), 19);
        Due.is("9 its own", x.moves(0, 5), 5);
        Due.is("9 there", x.at(5), 0);
        Due.is("9 not there", x.at(19), -9);
        Due.is("9 taken", x.moves(0, 2), -3);
        x.pushes(1);
        Due.is("9 taken by a down one", x.moves(0, 2), -3);
        Due.is("9 a down one moves", x.moves(1, 6), 2);
        Due.is("9 no thing", x.moves(2, 2), -1);
        Due.is("9 no place", x.moves(0, 20), -1);
        Due.is("9 no place below", x.moves(0, -1), -1);
    }

    // Promise 10
    private static void setsUp() {
        LeansAgainstReason x = Due.rack("pp050;t7000;");
        Due.is("10 already", x.setsUp(0), 0);
        x.pushes(0);
        Due.is("10 up", x.setsUp(0), 1);
        Due.is("10 its load", x.purpose(0, 3), 7);
        Due.is("10 none more", x.purpose(0, 3) + x.setsUp(0), 7);
        LeansAgainstReason y = Due.rack("pp050;t7000;u0;");
        Due.is("10 told of one that is up", y.purpose(0, 3), 7);
        Due.is("10 nobody", x.setsUp(1), -1);
        Due.is("10 nobody below", x.setsUp(-1), -1);
    }

    // Promise 11
    private static void pushes() {
        LeansAgainstReason x = Due.rack("pp099;t5000;t5010;t3020;t4030;t1050;");
        Due.is("11 until a heavier one", x.pushes(0), 3);
        Due.is("11 those up", x.count(3), 24);
        Due.is("11 until a free place", x.pushes(3), 1);
        Due.is("11 down", x.pushes(3), -3);
        Due.is("11 nobody", x.pushes(5), -1);
        x.setsUp(0);
        Due.is("11 until a down one", x.pushes(0), 1);
        LeansAgainstReason y = Due.rack("pp099;t5180;t5190;t5000;");
        Due.is("11 no place behind 19", y.pushes(0), 2);
        LeansAgainstReason z = Due.rack("pp099;t9000;t2010;t3020;");
        // Each by the one ahead of it, not by the first.
        Due.is("11 heavier than the one ahead", z.pushes(0), 2);
    }

    // Promise 12
    private static void strong() {
        LeansAgainstReason x = Due.rack("pp050;");
        Due.is("12 before", x.strong(0, 0), 50);
        Due.is("12 before that", x.strong(0, 99), 0);
        Due.is("12 now", x.purpose(0, 2), 99);
        Due.is("12 nobody", x.strong(1, -1), -1);
        Due.is("12 below", x.strong(0, -1), -4);
        Due.is("12 room", x.strong(0, 100), -6);
        Due.is("12 not changed", x.purpose(0, 2), 99);
    }

    // Promise 13
    private static void turn() {
        LeansAgainstReason x = Due.rack("po750;");
        Due.is("13 before", x.turn(0, 5, 9), 37);
        Due.is("13 kind", x.purpose(0, 0), 5);
        Due.is("13 figure", x.purpose(0, 1), 9);
        Due.is("13 before that", x.turn(0, 0, 0), 59);
        Due.is("13 nobody", x.turn(1, 6, 10), -1);
        Due.is("13 other", x.turn(0, 6, 10), -2);
        Due.is("13 other below", x.turn(0, -1, -1), -2);
        Due.is("13 below", x.turn(0, 0, -1), -4);
        Due.is("13 room", x.turn(0, 0, 10), -6);
        Due.is("13 not changed", x.purpose(0, 0) + x.purpose(0, 1), 0);
    }

    // Promise 14
    private static void days() {
        LeansAgainstReason x = Due.rack("pp010;t9000;t1190;");
        // 10 less 1 is below 10: the heavier one falls.
        Due.is("14 a day", x.days(1), 1);
        Due.is("14 up", x.count(3), 2);
        Due.is("14 more", x.days(8), 1);
        Due.is("14 at 0", x.days(1), 0);
        Due.is("14 below", x.days(0), -4);
        Due.is("14 least", x.days(LEAST), -4);
        Due.is("14 room", x.days(61), -6);
        Due.is("14 day", x.count(2), 10);
        for (int i = 0; i < 16; i++) {
            Due.is("14 60", x.days(60), 0);
        }
        Due.is("14 above 999", x.days(30), -6);
        Due.is("14 not changed", x.count(2), 970);
        Due.is("14 to 999", x.days(29), 0);
        Due.is("14 at the end", x.days(1), -6);
        Due.is("14 at the end, below", x.days(0), -4);
        Due.is("14 at the end, most", x.days(MOST), -6);
    }

    /** Purposes by numbers, one fall each, the heaviest, of several that of the least place; falls pass on. */
    private static void dayOrder() {
        LeansAgainstReason x = Due.rack("pp000;t3070;t3030;t1000;");
        Due.is("14 least place", x.days(1), 2);
        Due.is("14 which", x.count(3), 5);
        Due.is("14 one fall each", x.days(1), 1);
        Due.is("14 the lightest last", x.count(3), 4);
        LeansAgainstReason y = Due.rack("pp004;pp003;t4000;t3011;");
        // The first one's fall pushes the other one: the second purpose has spare then.
        Due.is("14 passes on", y.days(1), 0);
        LeansAgainstReason z = Due.rack("pp004;pp003;t4001;t3010;");
        // Purpose 0 bears 3 of 3; purpose 1 bears 4 of 2: 0 falls and pushes 1.
        Due.is("14 by numbers", z.days(1), 0);
        LeansAgainstReason v = Due.rack("pp002;pp003;t4001;t3010;t3030;");
        // Purpose 0 bears 6 of 1: of two of 3 that at place 1 falls; purpose 1 then bears 4 of 2.
        Due.is("14 each", v.days(1), 1);
        Due.is("14 the one at 3 stays", v.count(3), 4);
        LeansAgainstReason w = Due.rack("pl920;pp000;t9010;t1001;");
        // As loads stood as the day began: the lie is 20 less, though its thing falls on that day.
        w.strong(0, 9);
        Due.is("14 both", w.days(1), 0);
        Due.is("14 lie", w.purpose(0, 2), 0);
        LeansAgainstReason u = Due.rack("pl020;pp000;t1000;t2191;");
        u.leans(1, 0);
        u.leans(0, 1);
        u.pushes(1);
        Due.is("14 nothing leans on the lie", u.days(1), 0);
        Due.is("14 lie as it was", u.purpose(0, 2), 20);
    }

    // Promise 15
    private static void upThen() {
        LeansAgainstReason x = Due.rack("pp010;t9000;t1190;");
        Due.is("15 now", x.upThen(0, 0), 1);
        Due.is("15 then", x.upThen(0, 1), 0);
        Due.is("15 9", x.upThen(1, 9), 1);
        Due.is("15 10", x.upThen(1, 10), 0);
        Due.is("15 99", x.upThen(1, 99), 0);
        Due.is("15 only thought", x.count(3), 3);
        Due.is("15 no day went by", x.count(2), 0);
        Due.is("15 nobody", x.upThen(2, -1), -1);
        Due.is("15 below", x.upThen(0, -1), -4);
        Due.is("15 room", x.upThen(0, 100), -6);
    }

    // Promise 16
    private static void allThen() {
        LeansAgainstReason x = Due.rack("pp010;t9000;t1190;");
        Due.is("16 now", x.allThen(0), 2);
        Due.is("16 then", x.allThen(1), 1);
        Due.is("16 9", x.allThen(9), 1);
        Due.is("16 99", x.allThen(99), 0);
        Due.is("16 below", x.allThen(-1), -4);
        Due.is("16 room", x.allThen(100), -6);
        Due.is("16 strength as it was", x.purpose(0, 2), 10);
        LeansAgainstReason y = Due.rack("ph999;t9000;");
        for (int i = 0; i < 16; i++) {
            y.days(60);
        }
        y.days(39);
        y.strong(0, 12);
        y.setsUp(0);
        // Days 1000, 1010, 1020, 1030: in thought the day passes 999.
        Due.is("16 beyond 999", y.allThen(30), 1);
        Due.is("16 day 1030", y.allThen(31), 0);
    }

    // Promise 17
    private static void purposeThen() {
        LeansAgainstReason x = Due.rack("pp010;t9000;t1190;");
        Due.is("17 strength", x.purposeThen(0, 3, 0), 7);
        Due.is("17 strength now", x.purposeThen(0, 0, 0), 10);
        Due.is("17 load now", x.purposeThen(0, 0, 1), 10);
        Due.is("17 load", x.purposeThen(0, 3, 1), 1);
        Due.is("17 99", x.purposeThen(0, 99, 0), 0);
        Due.is("17 nobody", x.purposeThen(1, -1, 2), -1);
        Due.is("17 below", x.purposeThen(0, -1, 2), -4);
        Due.is("17 room", x.purposeThen(0, 100, 2), -6);
        Due.is("17 other", x.purposeThen(0, 99, 2), -2);
        Due.is("17 other below", x.purposeThen(0, 99, -1), -2);
    }

    // Promise 18
    private static void falls() {
        LeansAgainstReason x = Due.rack("pp010;ph999;t9000;t1190;t1171;t1161;");
        Due.is("18 1", x.falls(0), 1);
        Due.is("18 10", x.falls(1), 10);
        Due.is("18 never", x.falls(2), -9);
        x.pushes(2);
        Due.is("18 down", x.falls(2), 0);
        Due.is("18 nobody", x.falls(4), -1);
        LeansAgainstReason y = Due.rack("pp099;t1000;");
        // Strength 0 behind 99 days.
        Due.is("18 99", y.falls(0), 99);
        LeansAgainstReason z = Due.rack("ph099;ph199;t1000;t1191;");
        Due.is("18 99, too", z.falls(0), 99);
        z.strong(0, 99);
        Due.is("18 not within 99", z.falls(1), -9);
    }

    // Promise 19
    private static void first() {
        LeansAgainstReason x = Due.rack("pp010;pp009;t9070;t9051;t1000;");
        // Behind a day purpose 0 has 9 for 10, purpose 1 8 for 9: things 0 (place 7), 1 (place 5).
        Due.is("19 which", x.first(0), 1);
        Due.is("19 when", x.first(1), 1);
        Due.is("19 all up", x.first(2), 0);
        Due.is("19 flat", x.first(3), 10);
        x.pushes(0);
        x.pushes(1);
        Due.is("19 which is up", x.first(0), 2);
        Due.is("19 when 10", x.first(1), 10);
        Due.is("19 nothing more down until", x.first(2), 9);
        x.pushes(2);
        Due.is("19 none", x.first(0), -9);
        Due.is("19 never", x.first(1), -9);
        Due.is("19 99", x.first(2), 99);
        Due.is("19 flat now", x.first(3), 0);
        LeansAgainstReason y = Due.rack("ph999;t1000;");
        Due.is("19 nothing falls", y.first(0), -9);
        Due.is("19 nothing when", y.first(1), -9);
        Due.is("19 all of 99", y.first(2), 99);
        Due.is("19 never flat", y.first(3), -9);
        LeansAgainstReason z = Due.rack("pp099;t1000;");
        Due.is("19 behind 99", z.first(1), 99);
        Due.is("19 up behind 98", z.first(2), 98);
        Due.is("19 flat behind 99", z.first(3), 99);
        Due.is("19 other", y.first(4), -2);
        Due.is("19 other below", y.first(-1), -2);
    }

    // Promise 20
    private static void pushed() {
        LeansAgainstReason x = Due.rack("pp099;t5000;t5010;t3020;t4030;t1050;");
        Due.is("20 three", x.pushed(0), 7);
        Due.is("20 alone", x.pushed(4), 16);
        Due.is("20 only thought", x.count(3), 31);
        x.pushes(2);
        Due.is("20 up to a down one", x.pushed(0), 3);
        Due.is("20 down", x.pushed(2), -3);
        Due.is("20 nobody", x.pushed(5), -1);
    }

    // Promise 21
    private static void worst() {
        LeansAgainstReason x = Due.rack("pp099;t5100;t5110;t3000;t3010;t1190;");
        Due.is("21 the least place of two", x.worst(0), 2);
        Due.is("21 from place 0", Due.rack("pp099;t1010;t5000;").worst(0), 1);
        Due.is("21 two from place 0", Due.rack("pp099;t1010;t5000;").worst(1), 2);
        Due.is("21 two", x.worst(1), 2);
        x.pushes(2);
        Due.is("21 another", x.worst(0), 0);
        x.pushes(0);
        Due.is("21 the last", x.worst(0), 4);
        Due.is("21 one", x.worst(1), 1);
        x.pushes(4);
        Due.is("21 none", x.worst(0), -9);
        Due.is("21 none, how many", x.worst(1), -9);
        Due.is("21 other", x.worst(2), -2);
        Due.is("21 other below", x.worst(-1), -2);
    }

    // Promise 22
    private static void gap() {
        LeansAgainstReason x = Due.rack("pp099;t5000;t4030;t5010;t4020;t1190;");
        // Places 0 1 2 3: things 0 2 3 1. Without thing 2 one falls, three fewer.
        Due.is("22 the nearest", x.gap(0), 2);
        // From thing 2: three fall (2 3 1); without 3 one.
        Due.is("22 two fewer", x.gap(2), 3);
        // Thing 0 may be the gap of another.
        Due.is("22 thing 0", Due.rack("pp099;t1010;t1000;t1020;").gap(1), 0);
        // From thing 3: two fall; without 1 one: only one fewer.
        Due.is("22 one fewer is none", x.gap(3), -9);
        Due.is("22 alone", x.gap(4), -9);
        x.pushes(1);
        Due.is("22 shorter", x.gap(0), 2);
        Due.is("22 shorter from 2", x.gap(2), -9);
        Due.is("22 down", x.gap(1), -3);
        Due.is("22 nobody", x.gap(5), -1);
        Due.is("22 nobody below", x.gap(-1), -1);
    }

    // Promise 23
    private static void longest() {
        LeansAgainstReason x = Due.rack("pp099;t1180;t1190;t1000;t5010;t1050;");
        Due.is("23 two", x.longest(0), 2);
        Due.is("23 the first", x.longest(1), 0);
        x.pushes(2);
        Due.is("23 the last", x.longest(1), 18);
        x.pushes(0);
        Due.is("23 one", x.longest(0), 1);
        Due.is("23 at 1", x.longest(1), 1);
        x.pushes(3);
        x.pushes(4);
        Due.is("23 none", x.longest(0), 0);
        Due.is("23 none is up", x.longest(1), -9);
        Due.is("23 other", x.longest(2), -2);
        Due.is("23 other below", x.longest(-1), -2);
        Due.is("23 heavier beside, too", Due.rack("pp099;t1000;t5010;t9020;").longest(0), 3);
    }

    // Promise 24
    private static void lean() {
        LeansAgainstReason x = Due.rack("pp020;pp040;pp040;t5000;");
        Due.is("24 longest, least", x.lean(0), 1);
        Due.is("24 not changed", x.thing(0, 2), 0);
        LeansAgainstReason y = Due.rack("pp099;ph999;ph999;t5000;");
        Due.is("24 never down", y.lean(0), 1);
        LeansAgainstReason z = Due.rack("pp099;ph999;t1000;");
        // Purpose 0 lets it fall behind 99 days; purpose 1 never.
        Due.is("24 never is longer than 99", z.lean(0), 1);
        z.pushes(0);
        Due.is("24 down", z.lean(0), -3);
        Due.is("24 nobody", z.lean(1), -1);
        // A lie that nobody leans on stays, but not when it is leant on.
        Due.is("24 a lie", Due.rack("pl099;pp015;t5000;").lean(0), 0);
        Due.is("24 a great lie", Due.rack("pl999;pp015;t5000;").lean(0), 1);
    }

    // Promise 25
    private static void bestLeans() {
        LeansAgainstReason x = Due.rack("pp005;pp006;t5000;t4020;t1040;t1060;");
        // Now 5 and 6 hold 11 in all. Behind a day: 4 and 5. 0 (5) on 1; 1 (4) on 0; one of the 1s falls.
        Due.is("25 now all stand", x.bestLeans(0, 1, 2, 0, 0), 0);
        Due.is("25 now four", x.bestLeans(0, 1, 2, 0, 1), 4);
        // Thing 3 leans on 0, as ever; three stand at most, e.g. 1, 3 on 0 with 4 < 5: 1 falls then; 2, 3 on 0, 0 on 1 ..
        Due.is("25 a day", x.bestLeans(0, 1, 2, 1, 1), 3);
        Due.is("25 a day, which", x.bestLeans(0, 1, 2, 1, 0), 0);
        Due.is("25 not changed", x.thing(0, 2), 0);
        LeansAgainstReason y = Due.rack("pp000;pp009;pp009;t5000;t4020;t3040;");
        // Behind a day 8 and 8: 5 and 3 on one, 4 on the other.
        Due.is("25 in the told order", y.bestLeans(0, 1, 2, 1, 0), 121);
        Due.is("25 another order: 3 and 4 on one", y.bestLeans(2, 1, 0, 1, 0), 112);
        Due.is("25 another order still", y.bestLeans(0, 2, 1, 1, 0), 112);
        Due.is("25 three", y.bestLeans(1, 0, 2, 1, 1), 3);
        // Behind 20 all are down, whatever they lean on.
        Due.is("25 none, the first", y.bestLeans(0, 1, 2, 20, 0), 0);
        Due.is("25 none", y.bestLeans(0, 1, 2, 20, 1), 0);
        Due.is("25 nobody a", y.bestLeans(-1, 1, 2, -1, 2), -1);
        Due.is("25 nobody b", y.bestLeans(0, 3, 2, -1, 2), -1);
        Due.is("25 nobody c", y.bestLeans(0, 1, 3, -1, 2), -1);
        Due.is("25 twice ab", y.bestLeans(0, 0, 2, 0, 0), -1);
        Due.is("25 twice ac", y.bestLeans(0, 2, 0, 0, 0), -1);
        Due.is("25 twice bc", y.bestLeans(2, 0, 0, 0, 0), -1);
        Due.is("25 below", y.bestLeans(0, 1, 2, -1, 2), -4);
        Due.is("25 room", y.bestLeans(0, 1, 2, 21, 2), -6);
        Due.is("25 other", y.bestLeans(0, 1, 2, 20, 2), -2);
        Due.is("25 other below", y.bestLeans(0, 1, 2, 20, -1), -2);
    }

    // Promise 26
    private static void mended() {
        LeansAgainstReason x = Due.rack("pp003;pp003;pp003;t5000;t5021;t1031;t5052;");
        Due.is("26 now none", x.mended(0), -9);
        // A day: purpose 0 loses 1, purpose 1 (place 2, 3) 2, purpose 2 1.
        Due.is("26 most", x.mended(1), 1);
        x.leans(2, 2);
        // Thing 1's fall still pushes thing 2: mending 1 keeps two.
        Due.is("26 by what falls", x.mended(1), 1);
        x.moves(2, 19);
        Due.is("26 the least of several", x.mended(1), 0);
        Due.is("26 behind 99 none", Due.rack("pp099;t1000;").mended(99), -9);
        Due.is("26 below", x.mended(-1), -4);
        Due.is("26 room", x.mended(100), -6);
        Due.is("26 not changed", x.purpose(0, 2), 3);
        Due.is("26 nothing there", new LeansAgainstReason().mended(5), -9);
    }

    // Promise 27
    private static void key() {
        LeansAgainstReason x = Due.rack("pp090;pp090;pp090;t5000;t5021;t1031;t5052;");
        Due.is("27 now none", x.key(0), -9);
        Due.is("27 fewest", x.key(1), 1);
        x.moves(2, 19);
        // One fall each on the first day, two on the second from purpose 1.
        Due.is("27 the least of several", x.key(1), 0);
        Due.is("27 a second fall", x.key(2), 1);
        Due.is("27 behind 99 none", x.key(99), -9);
        Due.is("27 below", x.key(-1), -4);
        Due.is("27 room", x.key(100), -6);
        Due.is("27 not changed", x.purpose(1, 2), 90);
        Due.is("27 nothing there", new LeansAgainstReason().key(5), -9);
    }

    // Promise 28
    private static void takes() {
        LeansAgainstReason x = Due.rack("pp012;t5000;");
        Due.is("28 7", x.takes(0, 0), 7);
        Due.is("28 a day", x.takes(0, 1), 6);
        Due.is("28 none", x.takes(0, 7), 0);
        Due.is("28 it fell", x.takes(0, 8), 4);
        Due.is("28 behind 99", x.takes(0, 99), 0);
        x.strong(0, 99);
        Due.is("28 9 at most", x.takes(0, 0), 9);
        x.strong(0, 4);
        Due.is("28 not even 0", x.takes(0, 0), -9);
        Due.is("28 nobody", x.takes(1, -1), -1);
        Due.is("28 below", x.takes(0, -1), -4);
        Due.is("28 room", x.takes(0, 100), -6);
    }

    // Promise 29
    private static void balanced() {
        LeansAgainstReason x = Due.rack("pp007;pp000;t5000;t4020;t3041;t1061;t3080;");
        // 1 and two 3s are 7, three of them.
        Due.is("29 which", x.balanced(0, 0), 28);
        Due.is("29 how many", x.balanced(0, 1), 3);
        Due.is("29 none", x.balanced(1, 0), 0);
        Due.is("29 none, how many", x.balanced(1, 1), 0);
        x.pushes(3);
        // 4 and 3 (bits 2, 4), two 3s (4, 16), 4 and the other 3 (2, 16).
        Due.is("29 those up, the least bits", x.balanced(0, 0), 6);
        Due.is("29 two", x.balanced(0, 1), 2);
        x.strong(0, 99);
        Due.is("29 all up", x.balanced(0, 0), 23);
        x.strong(0, 1);
        x.setsUp(3);
        Due.is("29 one alone", x.balanced(0, 0), 8);
        Due.is("29 nobody", x.balanced(2, 2), -1);
        Due.is("29 other", x.balanced(0, 2), -2);
        Due.is("29 other below", x.balanced(0, -1), -2);
    }

    // Promise 30
    private static void thief() {
        LeansAgainstReason x = Due.rack("ph905;ph905;t5070;t3191;t2051;t1151;");
        // Spare 0 and -1. First day: thing 2 (place 5) is pushed; purpose 1 then has spare 1.
        // Second day: thing 0 (place 7).
        Due.is("30 none yet", x.thief(0), 4);
        Due.is("30 one", x.thief(1), 3);
        Due.is("30 two", x.thief(2), 2);
        Due.is("30 nothing more", x.thief(3), 2);
        // Day 10: both habits 1 less; purpose 1 has spare 0 then: thing 3 (place 15) ahead of day 11.
        Due.is("30 behind 10", x.thief(10), 2);
        Due.is("30 behind 11", x.thief(11), 1);
        Due.is("30 not changed", x.count(3), 15);
        Due.is("30 below", x.thief(-1), -4);
        Due.is("30 room", x.thief(100), -6);
        Due.is("30 99", x.thief(99), 0);
    }

    // Promise 31
    private static void robbed() {
        Due.is("31 nothing there", new LeansAgainstReason().robbed(), 0);
        Due.is("31 nothing to push", Due.rack("pp099;t9000;").robbed(), 0);
        LeansAgainstReason x = Due.rack("ph905;ph905;t5070;t3191;t2051;t1151;");
        Due.is("31 behind 2", x.robbed(), 2);
        x.pushes(2);
        Due.is("31 behind 1", x.robbed(), 1);
        x.strong(0, 6);
        Due.is("31 at once", x.robbed(), 0);
        LeansAgainstReason y = Due.rack("pp000;", "t1000;t1020;t1040;t1060;t1080;t1100;t1120;t1140;t1160;t1180;");
        // A day fells one by itself besides.
        Due.is("31 two a day", y.robbed(), 5);
    }

    // Promise 32
    private static void bestPlace() {
        LeansAgainstReason x = Due.rack("pp099;t5050;t5060;t1000;");
        // Place 1 has nothing behind it; 0 is taken.
        Due.is("32 where", x.bestPlace(0, 0), 1);
        Due.is("32 how many", x.bestPlace(0, 1), 1);
        Due.is("32 its own", x.bestPlace(2, 0), 0);
        Due.is("32 not moved", x.thing(0, 1), 5);
        Due.is("32 nobody", x.bestPlace(3, 2), -1);
        Due.is("32 other", x.bestPlace(0, 2), -2);
        x.pushes(2);
        Due.is("32 down", x.bestPlace(2, 0), -3);
        Due.is("32 other ahead of down", x.bestPlace(2, -1), -2);
        Due.is("32 a down one takes its place", x.bestPlace(0, 0), 1);
        LeansAgainstReason y = Due.rack("pp099;t5000;t5010;t5030;");
        // Its own place 0 has one behind it; 2 has one behind it, too.
        Due.is("32 away", y.bestPlace(0, 0), 4);
        LeansAgainstReason z = Due.rack("pp099;", "t9000;t9020;t9040;t9060;t9080;", "t1100;t1120;t1140;t1160;t1180;");
        // Ten things with a free place behind each: at its own place nobody is pushed.
        Due.is("32 its own, alone", z.bestPlace(0, 0), 0);
        Due.is("32 alone", z.bestPlace(0, 1), 1);
        Due.is("32 a light one, ahead of heavier ones", z.bestPlace(5, 0), 1);
    }

    private static void chance(LeansAgainstReason x, int thing, int n, int t, long above, long below) {
        Due.is("33 above " + thing + " " + n + " " + t, x.draught(thing, n, t, 0), above);
        Due.is("33 below " + thing + " " + n + " " + t, x.draught(thing, n, t, 1), below);
    }

    // Promise 33
    private static void draught() {
        LeansAgainstReason x = Due.rack("pv999;t5000;t5100;t5190;");
        chance(x, 0, 0, 2, 1, 1);
        chance(x, 0, 1, 4, 3, 4);
        chance(x, 1, 1, 4, 1, 1);
        chance(x, 1, 2, 4, 15, 16);
        // Up behind 3 days with at most one draught: (27 + 27) of 64.
        chance(x, 1, 3, 4, 27, 32);
        chance(x, 2, 3, 20, 7999, 8000);
        chance(x, 0, 7, 20, 893871739L, 1280000000L);
        chance(x, 0, 7, 2, 1, 128);
        // At most two of 7: 1 + 7 + 21 of 128.
        chance(x, 2, 7, 2, 29, 128);
        x.pushes(1);
        chance(x, 1, 5, 3, 0, 1);
        LeansAgainstReason y = Due.rack("pp004;pv999;t5000;t2051;");
        // It falls on the first day either way.
        chance(y, 0, 2, 3, 0, 1);
        // With a draught or without, thing 0 is down behind a day; thing 1 falls by a draught on the second.
        chance(y, 1, 2, 3, 2, 3);
        LeansAgainstReason z = Due.rack("pp009;t5000;t4100;");
        // Without a draught the day's own fall takes thing 0, with one the draught does.
        chance(z, 1, 1, 5, 1, 1);
        chance(z, 0, 1, 5, 0, 1);
        Due.is("33 nobody", z.draught(2, -1, 1, 2), LONG + 1);
        Due.is("33 below n", z.draught(0, -1, 21, 2), LONG + 4);
        Due.is("33 below t", z.draught(0, 8, 1, 2), LONG + 4);
        Due.is("33 room n", z.draught(0, 8, 2, 2), LONG + 6);
        Due.is("33 room t", z.draught(0, 7, 21, 2), LONG + 6);
        Due.is("33 other", z.draught(0, 7, 20, 2), LONG + 2);
        Due.is("33 other below", z.draught(0, 7, 20, -1), LONG + 2);
        Due.is("33 counted", z.count(11) + 10 * z.count(12) + 100 * z.count(14) + 1000 * z.count(16), 2221);
    }

    // Promise 34
    private static void two() {
        LeansAgainstReason x = Due.rack("pv999;t5000;t5010;t1100;");
        // The one gains nothing by pushing; the other fells two.
        Due.is("34 the other alone", x.two(2, 0, 5), 1);
        // If the other pushes 0, pushing 1 costs nothing, but 0 and 1 is the first pair.
        Due.is("34 the first pair", x.two(1, 0, 5), 1);
        LeansAgainstReason y = Due.rack("pv999;t5050;t1100;");
        y.pushes(0);
        // Pushing a down one is nothing: all pairs with the same end, the first 0 and 0 if the other gains nothing.
        Due.is("34 nothing by it", y.two(1, 0, 0), 0);
        Due.is("34 nobody a", y.two(-1, 0, -1), -1);
        Due.is("34 nobody b", y.two(0, 2, -1), -1);
        Due.is("34 twice", y.two(0, 0, 0), -1);
        Due.is("34 below", y.two(0, 1, -1), -4);
        Due.is("34 room", y.two(0, 1, 100), -6);
        LeansAgainstReason z = Due.rack("pv909;t9000;t1090;t1100;");
        // 11 on 9: left alone the 9 falls on the first day. The other pushes both 1s: the 9 stays, alone.
        Due.is("34 no more for the one", z.two(0, 1, 1), 1);
        String saving = "pv909;pv999;t1190;t9000;t1011;t1101;";
        // 10 on 9: left alone thing 1 falls and pushes 2. Thing 0 pushed ahead of that saves both.
        LeansAgainstReason v = Due.rack(saving);
        Due.is("34 both push", v.two(0, 3, 1), 11);
        Due.is("34 now it saves nothing", v.two(0, 3, 0), 1);
        v.pushes(3);
        Due.is("34 the other's is down", v.two(0, 3, 1), 10);
        Due.is("34 not changed", v.count(3), 7);
        // 11 on 10: either 1 pushed saves three, both pushed is one lost for nothing.
        LeansAgainstReason w = Due.rack("pv910;pv999;t1190;t1170;t9000;t1011;t1021;");
        Due.is("34 neither stays", w.two(0, 1, 1), -9);
        Due.is("34 neither stays, the other way", w.two(1, 0, 1), -9);
        LeansAgainstReason u = Due.rack("pv999;t5000;t5010;");
        // Whichever falls first takes the second with it, or is alone behind it.
        Due.is("34 the first by place", u.two(0, 1, 0), 1);
        Due.is("34 the second by place", u.two(1, 0, 0), 1);
    }

    private static void rowOf(LeansAgainstReason x, int... numbers) {
        x.clear();
        for (int i = 0; i < numbers.length; i++) {
            Due.is("36 number", x.row(numbers[i]), i + 1);
        }
    }

    // Promise 35
    private static void whatWas() {
        LeansAgainstReason x = Due.rack("ph260;");
        Due.is("35 an empty row, kinds", x.whatWas(0, 0), 63);
        Due.is("35 an empty row, figures", x.whatWas(0, 1), 1023);
        rowOf(x, 60);
        Due.is("35 as it is now, kinds", x.whatWas(0, 0), 63);
        Due.is("35 as it is now, figures", x.whatWas(0, 1), 1023);
        rowOf(x, 60, 60);
        // Kinds with its figure 2: the habit, the vow and the oath (2 by 3 is 0) and the lie that nothing leans on.
        Due.is("35 a still day, kinds", x.whatWas(0, 0), 2 + 4 + 8 + 32);
        // Habits with other figures than 0.
        Due.is("35 a still day, figures", x.whatWas(0, 1), 1022);
        rowOf(x, 60, 60, 60, 59);
        Due.is("35 a habit, kinds", x.whatWas(0, 0), 2);
        Due.is("35 a habit, figures", x.whatWas(0, 1), 4);
        Due.is("35 the row stays", x.count(6), 4);
        rowOf(x, 60, 59, 58);
        Due.is("35 day by day, kinds", x.whatWas(0, 0), 1);
        Due.is("35 day by day, figures", x.whatWas(0, 1), 1);
        rowOf(x, 59);
        Due.is("35 not so now, kinds", x.whatWas(0, 0), 0);
        Due.is("35 not so now, figures", x.whatWas(0, 1), 0);
        rowOf(x, 60, 57);
        Due.is("35 a whim", x.whatWas(0, 0), 16);
        Due.is("35 not a habit", x.whatWas(0, 1), 0);
        Due.is("35 not changed", 10 * x.purpose(0, 0) + x.purpose(0, 1), 12);
        LeansAgainstReason y = Due.rack("pw260;t1000;");
        rowOf(y, 60, 54, 48);
        Due.is("35 a lie", y.whatWas(0, 0), 32);
        Due.is("35 a whim's figure", y.whatWas(0, 1), 32);
        Due.is("35 nobody", y.whatWas(1, 2), -1);
        Due.is("35 other", y.whatWas(0, 2), -2);
        Due.is("35 other below", y.whatWas(0, -1), -2);
        LeansAgainstReason z = Due.rack("pp009;t9000;");
        rowOf(z, 9, 8, 7);
        // It falls on the first day as a lie: behind that the lie would stay at 0 more than it loses.
        Due.is("35 purpose, habit, whim of 0", z.whatWas(0, 0), 1 + 2 + 4 + 8 + 16);
        Due.is("35 any figure", z.whatWas(0, 1), 1023);
    }

    // Promise 36
    private static void row() {
        LeansAgainstReason x = new LeansAgainstReason();
        Due.is("36 0", x.row(0), 1);
        Due.is("36 99", x.row(99), 2);
        Due.is("36 below", x.row(-1), -4);
        Due.is("36 room", x.row(100), -6);
        for (int i = 3; i <= 16; i++) {
            Due.is("36 number " + i, x.row(i), i);
        }
        Due.is("36 full", x.row(5), -6);
        Due.is("36 full, below", x.row(-1), -4);
        Due.is("36 how many", x.count(6), 16);
    }

    // Promise 37
    private static void judge() {
        LeansAgainstReason x = Due.rack("pp005;t3000;t2190;");
        Due.is("37 empty", x.judge(), -9);
        rowOf(x, 2, 1, 1, 0);
        // 5, 4 (3 falls), 3, 2, 1 (2 falls).
        Due.is("37 behind 3", x.judge(), 3);
        Due.is("37 none is left", x.count(6), 0);
        rowOf(x, 2, 1, 1, 1, 0, 0);
        Due.is("37 so", x.judge(), -9);
        Due.is("37 none is left then", x.count(6), 0);
        rowOf(x, 1);
        Due.is("37 behind 0", x.judge(), 0);
        Due.is("37 only thought", x.count(2), 0);
    }

    // Promise 38
    private static void clear() {
        LeansAgainstReason x = new LeansAgainstReason();
        Due.is("38 empty", x.clear(), 0);
        rowOf(x, 3, 4, 5);
        Due.is("38 three", x.clear(), 3);
        Due.is("38 none", x.count(6), 0);
        Due.is("38 from the first again", x.row(1), 1);
    }

    // Promise 39
    private static void lots() {
        LeansAgainstReason x = new LeansAgainstReason();
        Due.is("39 below", x.lots(0, 0, 2), -4);
        Due.is("39 room", x.lots(21, 0, 2), -6);
        Due.is("39 other", x.lots(20, 0, 2), -2);
        Due.is("39 other below", x.lots(20, 0, -1), -2);
        Due.is("39 no purposes", x.lots(1, 0, 0), -3);
        Due.told(x, "pv999;pp030;");
        Due.is("39 no things", x.lots(20, 5, 0), 0);
        Due.is("39 strengths", x.lots(20, 5, 1), 20 * (99 + 10));
        Due.told(x, "t9000;t8190;");
        // Draws from z 0: 1013904223 by 256 is 3960563 (odd: 1), then z 1196435762 by 256 is 4673577 (odd: 1);
        // both lean on the 30: 17 of it until 13 are left: one falls; 10 are left: the other stays.
        Due.is("39 one term", x.lots(1, 0, 0), 1);
        Due.is("39 one term's strengths", x.lots(1, 0, 1), 109);
        Due.is("39 one purpose", Due.rack("pv999;t9000;t8190;").lots(3, 5, 0), 6);
        Due.is("39 one purpose's strengths", Due.rack("pv999;t9000;t8190;").lots(3, 5, 1), 297);
        Due.is("39 not changed", x.thing(0, 2), 0);
        Due.is("39 no day", x.count(2), 0);
        LeansAgainstReason y = Due.rack("pp030;ph212;pv360;po745;pw209;",
            "t5000;t5010;t3021;t4031;t9054;t1064;t2072;t6103;");
        Due.is("39 five terms", y.lots(5, 7, 0), 19);
        Due.is("39 five terms' strengths", y.lots(5, 7, 1), 395);
    }

    // Promise 40
    private static void image() {
        LeansAgainstReason x = Due.rack("pp050;t5000;d07;");
        Due.is("40 day", x.image(), 7);
        x.days(3);
        Due.is("40 another", x.image(), 10);
        x.days(3);
        Due.is("40 on from the later one", x.on(), 10);
    }

    // Promise 41
    private static void on() {
        LeansAgainstReason x = Due.rack("pp050;pp040;t5000;t4020;");
        Due.is("41 none", x.on(), -3);
        x.image();
        x.row(7);
        x.strong(0, 3);
        x.turn(1, 5, 5);
        x.leans(0, 1);
        x.moves(0, 19);
        x.pushes(1);
        Due.told(x, "pw111;t1101;");
        x.days(2);
        x.letter('p');
        Due.is("41 day", x.on(), 0);
        Due.is("41 purposes", x.count(0), 2);
        Due.is("41 things", x.count(1), 2);
        Due.is("41 up", x.count(3), 3);
        Due.is("41 strength", x.purpose(0, 2), 50);
        Due.is("41 kind", x.purpose(1, 0), 0);
        Due.is("41 load", x.purpose(0, 3), 9);
        Due.is("41 lean", x.thing(0, 2), 0);
        Due.is("41 place", x.at(0), 0);
        Due.is("41 no more there", x.at(19), -9);
        Due.is("41 no more of those told since", x.at(10), -9);
        Due.is("41 the row as it is", x.count(6), 1);
        Due.is("41 the letters as they are", x.count(7), 1);
        Due.is("41 refusals as they are", x.count(13), 1);
        x.pushes(0);
        Due.is("41 once more", x.on(), 0);
        Due.is("41 up once more", x.count(3), 3);
    }

    // Promise 42
    private static void count() {
        LeansAgainstReason x = Due.rack("pp050;pp040;t5000;t4021;t1041;d03;");
        x.pushes(2);
        x.row(4);
        x.letter('p');
        x.letter('x');
        int[] want = {2, 3, 3, 3, 84, 9, 1, 2};
        for (int what = 0; what < want.length; what++) {
            Due.is("42 what " + what, x.count(what), want[what]);
        }
        int[] none = {-1, 8, 9, 10, 17, LEAST, MOST};
        for (int what : none) {
            Due.is("42 another", x.count(what), -9);
        }
        x.thing(9, 9);
        x.first(9);
        x.first(9);
        x.pushes(2);
        x.days(0);
        x.days(0);
        x.days(61);
        int[] refused = {1, 2, 1, 2, 0, 1};
        for (int i = 0; i < refused.length; i++) {
            Due.is("42 refused " + (i + 1), x.count(11 + i), refused[i]);
        }
        x.image();
        x.on();
        Due.is("42 not with the image", x.count(12), 2);
    }
}
