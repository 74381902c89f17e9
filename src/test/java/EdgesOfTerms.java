/** The terms of the rack: what is told, kinds, loads, falls, days; and an object's number of calls. */
final class EdgesOfTerms extends Sentences {
    private static final String TEN = "t1000;t2020;t3040;t4060;t5080;t6100;t7120;t8140;t9160;t1180;";
    private static final String FIVE = "pp000;ph100;pv250;po999;pw905;";

    private EdgesOfTerms() {
    }

    static void go() {
        of("What it is");
        calls();
        of("Terms");
        purposes();
        things();
        day();
        letters();
        forms();
        statements();
        daysTold();
        wrongLetters();
        lacking();
        wrongStatements();
        wrongNumbers();
        wrongOnes();
        noRoom();
        allOrNothing();
        weakening();
        habits();
        vowsAndOaths();
        whimsAndLies();
        loads();
        falls();
        dayByKinds();
        dayByNumbers();
    }

    private static void calls() {
        says("An object is used for at most 512 calls after it has been made; what later calls answer is free.");
        LeansAgainstReason x = none();
        for (int i = 0; i < 511; i++) {
            x.pushes(0);
        }
        is(x.count(11), 511);
        LeansAgainstReason y = rack("pp099;t9000;");
        for (int i = 13; i < 511; i++) {
            y.moves(0, i % 20);
        }
        is(y.moves(0, 3), 510 % 20);
    }

    // ---- what there is ----

    private static void purposes() {
        says("PURPOSES 0 .. as they come (5 at most): KIND, FIGURE (0 .. 9), STRENGTH (0 .. 99).");
        LeansAgainstReason x = none();
        is(x.count(0), 0);
        is(x.purpose(0, 0), -1);
        String[] each = {"pl000;", "pw999;", "po112;", "pv050;", "ph301;"};
        for (int p = 0; p < 5; p++) {
            is(told(x, each[p]), 1);
            is(x.count(0), p + 1);
            is(x.purpose(p, 0), 5 - p);
            is(x.purpose(p, 1), each[p].charAt(2) - '0');
            is(x.purpose(p, 2), Integer.parseInt(each[p].substring(3, 5)));
            is(x.purpose(p + 1, 0), -1);
        }
        is(told(x, "pp000;"), -2000);
        is(x.count(0), 5);
    }

    private static void things() {
        says("THINGS 0 .. as they come (10 at most): WEIGHT (1 .. 9), a PLACE (0 .. 19, no two in one), the PURPOSE "
            + "on which it LEANS, UP or DOWN (UP at first).");
        LeansAgainstReason x = rack("pp099;pp099;");
        is(x.count(1), 0);
        is(x.thing(0, 0), -1);
        for (int t = 0; t < 10; t++) {
            int weight = 1 + t % 9;
            int place = 19 - 2 * t;
            is(told(x, "t" + weight + (place < 10 ? "0" : "") + place + t % 2 + ";"), 1);
            is(x.count(1), t + 1);
            is(x.thing(t, 0), weight);
            is(x.thing(t, 1), place);
            is(x.thing(t, 2), t % 2);
            is(x.thing(t, 3), 1);
            is(x.thing(t + 1, 0), -1);
        }
        is(x.count(3), 1023);
        is(told(x, "t1000;"), -2000);
        is(x.count(1), 10);
        is(x.moves(9, 0), 1);
        is(x.moves(0, 0), -3);
        is(x.thing(0, 1), 19);
    }

    private static void day() {
        says("DAY (0 .. 999; 0 at first).");
        is(none().count(2), 0);
        LeansAgainstReason x = late();
        is(x.count(2), 999);
        is(x.days(1), -6);
        is(x.count(2), 999);
    }

    // ---- letters and statements ----

    private static void letters() {
        says("A RACK is told in letters, one by one (96 at most): STATEMENTS, each with \";\" behind:");
        String whole = "pp099;pp099;pp099;pp099;pp099;" + TEN + "u0;u0;";
        is(whole.length(), 96);
        LeansAgainstReason x = none();
        Due.letters(x, whole);
        is(x.letter('u'), -6);
        is(x.count(7), 96);
        is(x.rack(), 17);
        is(x.count(1), 10);
        is(x.count(7), 0);
        is(told(none(), "pp000;pp000"), -1011);
        is(told(none(), "pp000;pp000;"), 2);
        is(told(none(), "pp000pp000;"), -1005);
        is(told(none(), "pp000;;"), -1006);
        is(told(none(), "; pp000;"), -1000);
        is(told(none(), "pp000; "), -1006);
        // One more letter would make it a statement.
        is(told(none(), "pp099;pp099;pp099;pp099;pp099;" + TEN + "u0;pp0"), -1096);
    }

    /** With each form: cut short, and with each letter that does not fit in each place. */
    private static void forms() {
        says("\"p\" a letter of a KIND, FIGURE (a digit), STRENGTH (2 digits): a PURPOSE more;");
        form("pp000;", "");
        for (int kind = 0; kind < 6; kind++) {
            LeansAgainstReason x = none();
            is(told(x, "p" + "phvowl".charAt(kind) + "970;"), 1);
            is(x.purpose(0, 0), kind);
            is(x.purpose(0, 1), 9);
            is(x.purpose(0, 2), 70);
        }
        says("\"t\" WEIGHT (a digit), a PLACE (2 digits), a PURPOSE (a digit): a THING more;");
        form("t1000;", "pp000;");
        says("\"l\" a THING, a PURPOSE (a digit each): it LEANS on that now;");
        form("l00;", "pp099;t1000;");
        says("\"u\" a THING (a digit): it is set UP;");
        form("u0;", "pp099;t1000;");
        says("\"s\" a PURPOSE (a digit), STRENGTH (2 digits);");
        form("s000;", "pp000;");
        says("\"d\" DAYS (2 digits, 1 .. 60): they go by.");
        form("d01;", "");
    }

    private static void form(String statement, String ahead) {
        int at = ahead.length();
        is(told(none(), ahead + statement) > 0 ? 1 : 0, 1);
        for (int i = 0; i < statement.length(); i++) {
            is(told(none(), ahead + statement.substring(0, i)), i == 0 && at > 0 ? at / 6 : -1000 - at - i);
            for (char c = 0; c < 256; c++) {
                if (!fits(statement, i, c)) {
                    String text = ahead + statement.substring(0, i) + c + statement.substring(i + 1);
                    is(told(none(), text), -1000 - at - i);
                }
            }
        }
    }

    private static boolean fits(String statement, int i, char c) {
        if (i == 0) {
            return "ptlusd".indexOf(c) >= 0;
        }
        if (statement.charAt(i) == ';') {
            return c == ';';
        }
        return statement.startsWith("pp") && i == 1 ? "phvowl".indexOf(c) >= 0 : c >= '0' && c <= '9';
    }

    private static void statements() {
        says("\"l\" a THING, a PURPOSE (a digit each): it LEANS on that now;");
        LeansAgainstReason x = rack("pp099;pp099;pp099;pp099;pp099;", TEN);
        is(told(x, "l94;l03;"), 2);
        is(x.thing(9, 2), 4);
        is(x.thing(0, 2), 3);
        is(x.purpose(3, 3), 1);
        is(x.purpose(0, 3), 44);
        x.pushes(8);
        is(told(x, "l81;"), 1);
        is(x.thing(8, 2), 1);
        is(x.purpose(1, 3), 0);
        says("\"u\" a THING (a digit): it is set UP;");
        is(told(x, "u8;u8;u9;"), 3);
        is(x.count(3), 1023);
        is(x.purpose(1, 3), 9);
        is(x.purpose(4, 3), 1);
        says("\"s\" a PURPOSE (a digit), STRENGTH (2 digits);");
        is(told(x, "s000;s499;s150;s151;"), 4);
        is(x.purpose(0, 2), 0);
        is(x.purpose(4, 2), 99);
        is(x.purpose(1, 2), 51);
        // Only days make things fall.
        is(x.count(3), 1023);
    }

    private static void daysTold() {
        says("\"d\" DAYS (2 digits, 1 .. 60): they go by.");
        is(told(none(), "d00;"), -2000);
        is(told(none(), "d61;"), -2000);
        is(told(none(), "d99;"), -2000);
        LeansAgainstReason x = rack("pp061;t1000;");
        is(told(x, "d01;"), 1);
        is(x.count(2), 1);
        is(x.purpose(0, 2), 60);
        is(told(x, "d59;"), 1);
        is(x.purpose(0, 2), 1);
        is(x.count(3), 1);
        is(told(x, "d01;u0;"), 2);
        is(x.purpose(0, 2), 0);
        is(x.count(3), 1);
        is(told(rack("pp060;t1000;"), "d60;"), 1);
        LeansAgainstReason y = rack("pp060;t1000;d60;");
        is(y.count(3), 0);
        is(y.count(2), 60);
        says("At least one STATEMENT.");
        is(none().rack(), -1000);
        LeansAgainstReason z = rack("pp000;");
        is(z.rack(), -1000);
        is(z.rack(), -1000);
        is(z.count(0), 1);
    }

    // ---- faults ----

    private static void wrongLetters() {
        says("FAULT: kind 1 the place of the first letter with which no RACK can go on");
        is(told(none(), "xpp000;"), -1000);
        is(told(none(), "pp000;x"), -1006);
        is(told(none(), "pp0x0x"), -1003);
        is(told(none(), "P"), -1000);
        is(told(none(), "pP"), -1001);
        is(told(none(), "pt"), -1001);
        is(told(none(), "tp"), -1001);
        // A letter of a place, not of its number: what is out of range is not of this kind.
        is(told(none(), "pp000;t0990;x"), -1012);
        is(told(none(), "pp000;t0990;"), -2006);
        is(told(none(), "pp000;pp000;pp000;pp000;pp000;pp000;pp000;y"), -1042);
        LeansAgainstReason x = none();
        for (int i = 0; i < 19; i++) {
            Due.is("letters", x.letter('d') + x.letter('0') + x.letter('1') + x.letter(';') + x.letter('u'), 25 * i + 15);
            Due.is("letters", x.count(7), 5 * i + 5);
        }
        is(x.rack(), -1005);
    }

    private static void lacking() {
        says("(the end, if something lacks)");
        is(told(none(), ""), -1000);
        is(told(none(), "p"), -1001);
        is(told(none(), "pp"), -1002);
        is(told(none(), "pp000;t"), -1007);
        is(told(none(), "pp000;t9190"), -1011);
        is(told(none(), "pp000;l0"), -1008);
        is(told(none(), "pp000;u"), -1007);
        is(told(none(), "pp000;s00"), -1009);
        is(told(none(), "d1"), -1002);
        says(": -1000 less the place;");
        StringBuilder days = new StringBuilder();
        for (int i = 0; i < 23; i++) {
            days.append("d01;");
        }
        is(told(none(), days + "d01x"), -1095);
        is(told(none(), days + "u0;d"), -1096);
        is(told(none(), days + "d01;"), 24);
        is(told(none(), days + "d0;"), -1094);
        is(told(none(), "x" + days), -1000);
    }

    private static void wrongStatements() {
        says("else kind 2 the place of the first letter of the first STATEMENT that, behind all ahead of it in the text, "
            + "is not as it must be");
        is(told(none(), "t1000;pp000;"), -2000);
        is(told(none(), "pp000;t1000;u1;t1010;"), -2012);
        is(told(none(), "pp000;t1000;t1010;u1;"), 4);
        is(told(none(), "pp000;l00;t1000;"), -2006);
        is(told(none(), "pp000;s100;pp000;"), -2006);
        is(told(none(), "pp000;pp000;s100;"), 3);
        is(told(none(), "pp000;t1000;t1000;d00;"), -2012);
        is(told(none(), "pp000;t1000;t0000;t1000;"), -2012);
        // What fell on days that are told ahead still is where it was.
        is(told(none(), "pp000;t1000;d01;t1000;"), -2016);
        says(": -2000 less the place.");
        is(told(none(), "d00;"), -2000);
        is(told(none(), "d01;d00;"), -2004);
        StringBuilder days = new StringBuilder();
        for (int i = 0; i < 23; i++) {
            days.append("d01;");
        }
        is(told(none(), days + "d61;"), -2092);
        // A wrong letter behind it goes ahead of it.
        is(told(none(), "d61;" + days.substring(4) + "x"), -1092);
    }

    private static void wrongNumbers() {
        says("(a number out of range,");
        is(told(none(), "pp000;t0000;"), -2006);
        is(told(none(), "pp000;t1000;t9190;"), 3);
        is(told(none(), "pp000;t1200;"), -2006);
        is(told(none(), "pp000;t1210;"), -2006);
        is(told(none(), "pp000;t1990;"), -2006);
        is(told(none(), "d00;"), -2000);
        is(told(none(), "d61;"), -2000);
        is(told(none(), "d60;d01;"), 2);
        is(told(none(), "ph000;pl999;"), 2);
    }

    private static void wrongOnes() {
        says("no such THING, PURPOSE so far,");
        String ahead = "pp099;t1000;";
        is(told(none(), ahead + "l10;"), -2012);
        is(told(none(), ahead + "l90;"), -2012);
        is(told(none(), ahead + "l01;"), -2012);
        is(told(none(), ahead + "l09;"), -2012);
        is(told(none(), ahead + "u1;"), -2012);
        is(told(none(), ahead + "u9;"), -2012);
        is(told(none(), ahead + "s199;"), -2012);
        is(told(none(), ahead + "s900;"), -2012);
        is(told(none(), ahead + "t1011;"), -2012);
        is(told(none(), ahead + "t1019;"), -2012);
        is(told(none(), "u0;"), -2000);
        is(told(none(), "l00;"), -2000);
        is(told(none(), "s000;"), -2000);
        is(told(none(), "t1000;"), -2000);
        LeansAgainstReason x = rack("pp099;pp099;pp099;pp099;pp099;", TEN);
        is(told(x, "l05;"), -2000);
        is(told(x, "s500;"), -2000);
        is(told(x, "u9;l94;s499;"), 3);
        says("a PLACE that is taken,");
        is(told(none(), ahead + "t1000;"), -2012);
        is(told(none(), ahead + "t1190;t1190;"), -2018);
        LeansAgainstReason nine = rack("pp099;", TEN.substring(6));
        for (int place = 2; place <= 18; place += 2) {
            is(told(nine, "t1" + (place < 10 ? "0" : "") + place + "0;"), -2000);
        }
        is(told(nine, "t1000;"), 1);
        LeansAgainstReason y = rack(ahead);
        y.pushes(0);
        is(told(y, "t1000;"), -2000);
        y.moves(0, 19);
        is(told(y, "t1190;"), -2000);
        is(told(y, "t1000;"), 1);
        is(y.at(0), 1);
    }

    private static void noRoom() {
        says("DAY above 999,");
        LeansAgainstReason x = none();
        for (int i = 0; i < 16; i++) {
            x.days(60);
        }
        is(told(x, "d40;"), -2000);
        is(told(x, "d38;d02;"), -2004);
        is(x.count(2), 960);
        is(told(x, "d38;d01;"), 2);
        is(x.count(2), 999);
        is(told(x, "d01;"), -2000);
        is(told(x, "pp000;d01;"), -2006);
        is(x.count(0), 0);
        says("no room for more)");
        is(told(none(), "pp000;pp000;pp000;pp000;pp000;"), 5);
        is(told(none(), "pp000;pp000;pp000;pp000;pp000;pp000;"), -2030);
        LeansAgainstReason y = rack("pp000;", TEN);
        is(told(y, "t1190;"), -2000);
        is(told(y, "pp000;t1190;"), -2006);
        y.pushes(0);
        is(told(y, "t1190;"), -2000);
        is(y.count(0), 1);
        is(y.count(1), 10);
        is(told(rack("pp000;", TEN.substring(6)), "t1190;"), 1);
    }

    private static void allOrNothing() {
        says("Without FAULT all of it comes, with one nothing.");
        LeansAgainstReason x = rack("pp050;pp040;t5000;t4020;");
        x.pushes(1);
        is(told(x, "pp000;t3040;l01;u1;s007;d09;x"), -1028);
        is(told(x, "pp000;t3040;l01;u1;s007;d09;d00;"), -2028);
        is(x.count(0), 2);
        is(x.count(1), 2);
        is(x.count(2), 0);
        is(x.count(3), 1);
        is(x.count(4), 90);
        is(x.count(5), 5);
        is(x.thing(0, 2), 0);
        is(x.at(4), -9);
        is(x.count(7), 0);
        is(told(x, "pp000;t3040;l01;u1;s007;d02;"), 6);
        is(x.count(0), 3);
        is(x.count(1), 3);
        is(x.count(2), 2);
        // Purpose 0 has 7 less 2 for 4 and 3: the heavier one fell on the first day.
        is(x.count(3), 5);
        is(x.count(4), 5 + 38);
        is(x.count(5), 5 + 3);
        is(x.thing(0, 2), 1);
        is(x.at(4), 2);
    }

    // ---- kinds ----

    private static void weakening() {
        says("KINDS of PURPOSES, by how much STRENGTH is less on a DAY (0 at least):");
        for (int kind = 0; kind < 6; kind++) {
            String p = "p" + "phvowl".charAt(kind);
            LeansAgainstReason x = rack(p + "000;t1000;");
            x.days(1);
            is(x.purpose(0, 2), 0);
            LeansAgainstReason y = rack(p + "901;t1000;");
            is(y.purposeThen(0, 99, 0), 0);
            // Behind the day on which its thing falls a lie would stay; here it is at 0 by then.
            y.days(60);
            is(y.purpose(0, 2), 0);
        }
        is(rack("pw910;").purposeThen(0, 1, 0), 0);
        is(rack("pw909;").purposeThen(0, 1, 0), 0);
        is(rack("pw911;").purposeThen(0, 1, 0), 1);
        says("p PURPOSE: 1.");
        LeansAgainstReason x = rack("pp999;");
        is(x.purpose(0, 4), 1);
        is(x.purposeThen(0, 98, 0), 1);
        is(x.purposeThen(0, 99, 0), 0);
        is(rack("pp098;").purposeThen(0, 99, 0), 0);
    }

    private static void habits() {
        says("h HABIT under PURPOSE: that on DAYS that FIGURE and 1 divide, else 0.");
        LeansAgainstReason x = rack("ph099;ph199;ph299;ph899;ph999;");
        int[] divides = {1, 2, 3, 9, 10};
        int[] strength = {99, 99, 99, 99, 99};
        for (int day = 1; day <= 30; day++) {
            for (int p = 0; p < 5; p++) {
                int less = day % divides[p] == 0 ? 1 : 0;
                is(x.purpose(p, 4), less);
                strength[p] -= less;
            }
            x.days(1);
            for (int p = 0; p < 5; p++) {
                is(x.purpose(p, 2), strength[p]);
            }
        }
        // By the day, not by days since it was told.
        LeansAgainstReason y = rack("d09;ph999;");
        is(y.purpose(0, 4), 1);
        is(y.purposeThen(0, 1, 0), 98);
        is(y.purposeThen(0, 10, 0), 98);
        is(y.purposeThen(0, 11, 0), 97);
    }

    private static void vowsAndOaths() {
        says("v VOW under HABIT: as a HABIT, but 0 while STRENGTH is 50 or more.");
        LeansAgainstReason x = rack("pv049;pv050;pv051;pv099;pv249;");
        int[] less = {1, 0, 0, 0, 0};
        for (int p = 0; p < 5; p++) {
            is(x.purpose(p, 4), less[p]);
        }
        is(x.purposeThen(0, 49, 0), 0);
        is(x.purposeThen(1, 99, 0), 50);
        is(x.purposeThen(3, 99, 0), 99);
        is(x.purposeThen(4, 2, 0), 49);
        is(x.purposeThen(4, 3, 0), 48);
        x.strong(1, 49);
        is(x.purpose(1, 4), 1);
        says("o OATH under VOW: FIGURE by 3, cut, more than a VOW's.");
        int[] more = {0, 0, 0, 1, 1, 1, 2, 2, 2, 3};
        for (int figure = 0; figure <= 9; figure++) {
            LeansAgainstReason y = rack("po" + figure + "50;po" + figure + "49;");
            is(y.purpose(0, 4), more[figure]);
            is(y.purpose(1, 4), more[figure] + (figure == 0 ? 1 : 0));
        }
        // 51, 50, 49; then every 4th day (4, 8 ..) one more.
        LeansAgainstReason z = rack("po351;");
        int[] then = {51, 50, 49, 48, 46, 45, 44, 43, 41};
        for (int n = 0; n < then.length; n++) {
            is(z.purposeThen(0, n, 0), then[n]);
        }
    }

    private static void whimsAndLies() {
        says("w WHIM under PURPOSE: FIGURE more.");
        is(rack("pw099;").purpose(0, 4), 1);
        is(rack("pw999;").purpose(0, 4), 10);
        is(rack("pw999;").purposeThen(0, 9, 0), 9);
        is(rack("pw999;").purposeThen(0, 10, 0), 0);
        says("l LIE under WHIM: twice a WHIM's, if anything LEANS on it that is UP, else 0.");
        LeansAgainstReason x = rack("pl999;pl099;t1000;");
        is(x.purpose(0, 4), 20);
        is(x.purpose(1, 4), 0);
        is(x.purposeThen(0, 4, 0), 19);
        is(x.purposeThen(0, 5, 0), 0);
        is(x.purposeThen(1, 99, 0), 99);
        x.pushes(0);
        is(x.purpose(0, 4), 0);
        is(x.purposeThen(0, 99, 0), 99);
        x.leans(0, 1);
        is(x.purpose(1, 4), 0);
        x.setsUp(0);
        is(x.purpose(1, 4), 2);
        is(x.purposeThen(1, 49, 0), 1);
        // At 1 it still bears 1; at 0 the thing falls, and nothing leans there.
        is(x.purposeThen(1, 50, 0), 0);
        LeansAgainstReason y = rack("pl020;t9000;");
        // 20, 18 .. 10, 8: the 9 falls, and the lie stays at 8.
        is(y.purposeThen(0, 6, 0), 8);
        is(y.purposeThen(0, 99, 0), 8);
        says("Where it is not told as above them.");
        // Figures tell nothing of a purpose; strength tells nothing of a habit, a whim, a lie.
        is(rack("pp950;").purpose(0, 4), 1);
        is(rack("ph050;").purpose(0, 4), 1);
        is(rack("pw050;").purpose(0, 4), 1);
        is(rack("pl050;t1000;").purpose(0, 4), 2);
        is(rack("ph150;").purpose(0, 4), 0);
        is(rack("pv149;").purpose(0, 4), 0);
        is(rack("po149;").purpose(0, 4), 0);
        is(rack("pw150;").purpose(0, 4), 2);
    }

    // ---- loads, falls, days ----

    private static void loads() {
        says("LOAD of a PURPOSE: WEIGHTS of THINGS that LEAN on it and are UP, together.");
        LeansAgainstReason x = rack("pp099;pp099;", "t9000;t9020;t9040;t9060;t9080;t9100;t9120;t9140;t9160;t9180;");
        is(x.purpose(0, 3), 90);
        is(x.purpose(1, 3), 0);
        is(x.count(5), 90);
        x.pushes(4);
        is(x.purpose(0, 3), 81);
        x.leans(4, 1);
        is(x.purpose(0, 3), 81);
        is(x.purpose(1, 3), 0);
        x.setsUp(4);
        is(x.purpose(1, 3), 9);
        is(x.count(5), 90);
        says("SPARE: STRENGTH less LOAD (may be below 0).");
        is(x.spare(0), 18);
        x.strong(0, 0);
        is(x.spare(0), -81);
        x.strong(0, 81);
        is(x.spare(0), 0);
        is(rack("pp000;").spare(0), 0);
        is(rack("pp099;").spare(0), 99);
    }

    private static void falls() {
        says("A FALL of a THING: it is DOWN; then that in the PLACE 1 more, if there is one that is UP and no heavier, "
            + "FALLS, too (and so on).");
        is(rack("pp099;t5000;t5010;").pushes(0), 2);
        is(rack("pp099;t5000;t6010;").pushes(0), 1);
        is(rack("pp099;t5000;t4010;").pushes(0), 2);
        is(rack("pp099;t5000;t4020;").pushes(0), 1);
        is(rack("pp099;t5000;t4010;").pushes(1), 1);
        // By the one next to it, not by the first; the last place has none behind it, and place 0 is not that.
        is(rack("pp099;t9000;t1010;t2020;").pushes(0), 2);
        LeansAgainstReason x = rack("pp099;t9190;t1000;t9180;");
        is(x.pushes(2), 2);
        is(x.count(3), 2);
        is(x.setsUp(2), 1);
        is(x.pushes(2), 1);
        LeansAgainstReason y = rack("pp099;", "t9030;t9040;t8050;t8060;t5070;t5080;t5090;t2100;t1110;t1120;");
        is(y.pushed(0), 1023);
        y.pushes(9);
        is(y.pushed(0), 511);
        y.pushes(4);
        is(y.count(3), 15);
        is(y.pushes(0), 4);
        is(y.count(3), 0);
        // Whatever they lean on.
        is(rack("pp099;pp099;t5000;t5011;").pushes(0), 2);
    }

    private static void dayByKinds() {
        says("A DAY: DAY is 1 more; all STRENGTHS are less by their KINDS (as LOADS stood as it began);");
        LeansAgainstReason x = rack("ph120;ph020;t1000;");
        x.days(1);
        is(x.count(2), 1);
        is(x.purpose(0, 2), 20);
        is(x.purpose(1, 2), 19);
        x.days(1);
        is(x.purpose(0, 2), 19);
        // Things 1, 2 are pushed by thing 0 on that day; their lies are less all the same, and stay from then on.
        LeansAgainstReason y = rack("pp002;pl199;pl299;t3000;t2011;t2022;");
        y.days(1);
        is(y.count(3), 0);
        is(y.purpose(1, 2), 95);
        is(y.purpose(2, 2), 93);
        y.days(9);
        is(y.purpose(1, 2), 95);
        is(y.purpose(2, 2), 93);
    }

    private static void dayByNumbers() {
        says("then PURPOSES by numbers, each: if SPARE is below 0, the heaviest THING that LEANS on it and is UP "
            + "(of several that of the least PLACE) FALLS (one FALL each).");
        is(rack("pv909;t9000;").days(1), 1);
        is(rack("pv908;t9000;").days(1), 0);
        is(rack("pp009;t9000;").days(1), 0);
        is(rack("pp010;t9000;").days(1), 1);
        is(rack("pv900;").days(1), 0);
        LeansAgainstReason x = rack("pv900;t2000;t3090;t3040;t3190;");
        int[] up = {11, 9, 1, 0, 0};
        for (int n = 0; n < up.length; n++) {
            x.days(1);
            is(x.count(3), up[n]);
        }
        // The heaviest is down, or leans on another: the heaviest of the rest.
        LeansAgainstReason y = rack("pv905;pv999;t9000;t9021;t4040;t2060;");
        y.pushes(0);
        y.days(1);
        is(y.count(3), 2 + 8);
        // Purpose 0's fall takes a thing of purpose 1 with it, which has spare then.
        LeansAgainstReason z = rack("pv900;pv901;t2000;t2011;t1191;");
        z.days(1);
        is(z.count(3), 4);
        // The other way: purpose 1's fall, which takes thing 1 with it, comes too late for thing 2.
        LeansAgainstReason w = rack("pv903;pv900;t2001;t2010;t3100;");
        w.days(1);
        is(w.count(3), 0);
    }
}
