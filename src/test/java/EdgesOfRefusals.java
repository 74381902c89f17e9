import java.util.ArrayList;
import java.util.List;

/** What each promise refuses, in its order, and that nothing changes by it but how many there were. */
final class EdgesOfRefusals extends Sentences {
    private static final long LONG = 4000000000000000000L;
    private static final int SPARE = 1000000000;

    private interface Call {
        long of(LeansAgainstReason x);
    }

    private EdgesOfRefusals() {
    }

    static void go() {
        letters();
        looks();
        changes();
        turnsAndDays();
        then();
        pushes();
        leans();
        strengths();
        robbers();
        odds();
        rows();
        lotsAndImage();
        onlyThought();
        stillThought();
    }

    // ---- an object with something of all, and all that can be seen of it ----

    /** 4 purposes, 8 things, the last of them down, an image that is not as it is now, two in the row, three letters. */
    private static LeansAgainstReason busy() {
        LeansAgainstReason x = rack("pp030;ph212;pv360;pl209;", "t5000;t5010;t3021;t4031;t9050;t1063;t2072;t6103;");
        x.pushes(7);
        x.image();
        x.days(1);
        x.strong(1, 33);
        x.row(7);
        x.row(6);
        x.letter('p');
        x.letter('w');
        x.letter('1');
        return x;
    }

    private static List<Long> seen(LeansAgainstReason x) {
        List<Long> all = new ArrayList<>();
        look(x, all);
        all.add((long) x.judge());
        x.letter('2');
        x.letter('3');
        x.letter(';');
        all.add((long) x.rack());
        all.add((long) x.purpose(4, 2));
        all.add((long) x.on());
        look(x, all);
        return all;
    }

    private static void look(LeansAgainstReason x, List<Long> all) {
        for (int what = 0; what < 8; what++) {
            all.add((long) x.count(what));
        }
        for (int p = 0; p < 4; p++) {
            for (int what = 0; what < 5; what++) {
                all.add((long) x.purpose(p, what));
            }
            all.add((long) x.spare(p));
        }
        for (int t = 0; t < 8; t++) {
            for (int what = 0; what < 4; what++) {
                all.add((long) x.thing(t, what));
            }
        }
        for (int place = 0; place < 20; place++) {
            all.add((long) x.at(place));
        }
    }

    private static void no(Call call, long want) {
        LeansAgainstReason x = busy();
        is(call.of(x), want);
        long number = want > 0 ? want % SPARE : -want;
        for (int i = 1; i <= 6; i++) {
            is(x.count(10 + i), i == number ? 1 : 0);
        }
        is(seen(x).equals(seen(busy())) ? 1 : 0, 1);
    }

    /** A call that only asks: nothing changes, nothing is refused. */
    private static void asks(Call call) {
        LeansAgainstReason x = busy();
        is(call.of(x) == -9 || call.of(x) >= 0 ? 1 : 0, 1);
        is(call.of(x), call.of(busy()));
        for (int i = 1; i <= 6; i++) {
            is(x.count(10 + i), 0);
        }
        is(seen(x).equals(seen(busy())) ? 1 : 0, 1);
    }

    // ---- what is refused ----

    private static void letters() {
        of(2);
        says("-4; -6 (255; 96, too).");
        no(x -> x.letter(-1), -4);
        no(x -> x.letter(LEAST), -4);
        no(x -> x.letter(256), -6);
        no(x -> x.letter(MOST), -6);
        LeansAgainstReason x = none();
        for (int i = 1; i < 97; i++) {
            is(x.letter("d01;".charAt((i - 1) % 4)), i);
        }
        is(x.letter(0), -6);
        is(x.letter(255), -6);
        is(x.letter(256), -6);
        is(x.letter(-1), -4);
        is(x.count(7), 96);
        is(x.count(14), 1);
        is(x.count(16), 3);
        is(x.rack(), 24);
        is(x.letter(0), 1);
    }

    private static void looks() {
        of(4);
        says("-1; -2.");
        no(x -> x.purpose(4, 0), -1);
        no(x -> x.purpose(-1, 0), -1);
        no(x -> x.purpose(5, 5), -1);
        no(x -> x.purpose(MOST, 0), -1);
        no(x -> x.purpose(LEAST, -1), -1);
        no(x -> x.purpose(0, 5), -2);
        no(x -> x.purpose(3, -1), -2);
        no(x -> x.purpose(3, MOST), -2);
        of(5);
        says("Refused as told: -1.");
        no(x -> x.spare(4), SPARE + 1);
        no(x -> x.spare(-1), SPARE + 1);
        no(x -> x.spare(LEAST), SPARE + 1);
        of(6);
        says("-1; -2.");
        no(x -> x.thing(8, 0), -1);
        no(x -> x.thing(-1, 0), -1);
        no(x -> x.thing(10, 4), -1);
        no(x -> x.thing(MOST, 0), -1);
        no(x -> x.thing(0, 4), -2);
        no(x -> x.thing(7, -1), -2);
        of(7);
        says("-1.");
        no(x -> x.at(20), -1);
        no(x -> x.at(-1), -1);
        no(x -> x.at(LEAST), -1);
        no(x -> x.at(MOST), -1);
    }

    private static void changes() {
        of(8);
        says("-1 either.");
        no(x -> x.leans(8, 0), -1);
        no(x -> x.leans(-1, 0), -1);
        no(x -> x.leans(0, 4), -1);
        no(x -> x.leans(0, -1), -1);
        no(x -> x.leans(8, 4), -1);
        of(9);
        says("-1 either; -3 another one is there.");
        no(x -> x.moves(8, 19), -1);
        no(x -> x.moves(-1, 19), -1);
        no(x -> x.moves(0, 20), -1);
        no(x -> x.moves(0, -1), -1);
        no(x -> x.moves(8, 0), -1);
        no(x -> x.moves(0, 1), -3);
        no(x -> x.moves(7, 0), -3);
        no(x -> x.moves(0, 10), -3);
        of(10);
        says("-1.");
        no(x -> x.setsUp(8), -1);
        no(x -> x.setsUp(-1), -1);
        of(11);
        says("-1; -3 it is DOWN.");
        no(x -> x.pushes(8), -1);
        no(x -> x.pushes(-1), -1);
        no(x -> x.pushes(7), -3);
        of(12);
        says("-1; -4; -6 99.");
        no(x -> x.strong(4, 50), -1);
        no(x -> x.strong(-1, -1), -1);
        no(x -> x.strong(4, 100), -1);
        no(x -> x.strong(0, -1), -4);
        no(x -> x.strong(0, LEAST), -4);
        no(x -> x.strong(0, 100), -6);
        no(x -> x.strong(0, MOST), -6);
    }

    private static void turnsAndDays() {
        of(13);
        says("-1; -2; -4; -6 9.");
        no(x -> x.turn(4, 0, 0), -1);
        no(x -> x.turn(-1, 6, -1), -1);
        no(x -> x.turn(0, 6, 0), -2);
        no(x -> x.turn(0, -1, 0), -2);
        no(x -> x.turn(0, 6, -1), -2);
        no(x -> x.turn(0, 6, 10), -2);
        no(x -> x.turn(0, 5, -1), -4);
        no(x -> x.turn(0, 0, LEAST), -4);
        no(x -> x.turn(0, 5, 10), -6);
        no(x -> x.turn(0, 0, MOST), -6);
        of(14);
        says("-4; -6 (60; DAY above 999).");
        no(x -> x.days(0), -4);
        no(x -> x.days(-1), -4);
        no(x -> x.days(LEAST), -4);
        no(x -> x.days(61), -6);
        no(x -> x.days(MOST), -6);
        LeansAgainstReason x = late("pp099;t1000;");
        is(x.days(1), -6);
        is(x.days(60), -6);
        is(x.days(0), -4);
        is(x.count(2), 999);
        is(x.count(4), 99);
        is(x.count(14), 1);
        is(x.count(16), 2);
    }

    private static void then() {
        of(15);
        says("-1; -4; -6 99.");
        no(x -> x.upThen(8, 0), -1);
        no(x -> x.upThen(-1, -1), -1);
        no(x -> x.upThen(8, 100), -1);
        no(x -> x.upThen(0, -1), -4);
        no(x -> x.upThen(7, LEAST), -4);
        no(x -> x.upThen(0, 100), -6);
        no(x -> x.upThen(0, MOST), -6);
        of(16);
        says("-4; -6 99.");
        no(x -> x.allThen(-1), -4);
        no(x -> x.allThen(LEAST), -4);
        no(x -> x.allThen(100), -6);
        no(x -> x.allThen(MOST), -6);
        of(17);
        says("-1; -4; -6 99; -2.");
        no(x -> x.purposeThen(4, 0, 0), -1);
        no(x -> x.purposeThen(-1, -1, 2), -1);
        no(x -> x.purposeThen(0, -1, 2), -4);
        no(x -> x.purposeThen(0, -1, 0), -4);
        no(x -> x.purposeThen(0, 100, 0), -6);
        no(x -> x.purposeThen(0, 100, 2), -6);
        no(x -> x.purposeThen(0, 99, 2), -2);
        no(x -> x.purposeThen(0, 0, -1), -2);
        of(18);
        says("-1.");
        no(x -> x.falls(8), -1);
        no(x -> x.falls(-1), -1);
        of(19);
        says("-2.");
        no(x -> x.first(4), -2);
        no(x -> x.first(-1), -2);
        no(x -> x.first(LEAST), -2);
        no(x -> x.first(MOST), -2);
    }

    private static void pushes() {
        of(20);
        says("-1; -3 it is DOWN.");
        no(x -> x.pushed(8), -1);
        no(x -> x.pushed(-1), -1);
        no(x -> x.pushed(7), -3);
        of(21);
        says("-2.");
        no(x -> x.worst(2), -2);
        no(x -> x.worst(-1), -2);
        is(none().worst(2), -2);
        of(22);
        says("-1; -3 it is DOWN.");
        no(x -> x.gap(8), -1);
        no(x -> x.gap(-1), -1);
        no(x -> x.gap(7), -3);
        of(23);
        says("-2.");
        no(x -> x.longest(2), -2);
        no(x -> x.longest(-1), -2);
        is(none().longest(2), -2);
        of(32);
        says("-1; -2; -3 it is DOWN.");
        no(x -> x.bestPlace(8, 0), -1);
        no(x -> x.bestPlace(-1, 2), -1);
        no(x -> x.bestPlace(0, 2), -2);
        no(x -> x.bestPlace(0, -1), -2);
        no(x -> x.bestPlace(7, 2), -2);
        no(x -> x.bestPlace(7, 0), -3);
        no(x -> x.bestPlace(7, 1), -3);
    }

    private static void leans() {
        of(24);
        says("-1; -3 it is DOWN.");
        no(x -> x.lean(8), -1);
        no(x -> x.lean(-1), -1);
        no(x -> x.lean(7), -3);
        of(25);
        says("-1 any (one twice, too); -4; -6 20; -2.");
        no(x -> x.bestLeans(8, 1, 2, 0, 0), -1);
        no(x -> x.bestLeans(0, 8, 2, 0, 0), -1);
        no(x -> x.bestLeans(0, 1, 8, 0, 0), -1);
        no(x -> x.bestLeans(-1, 1, 2, -1, 2), -1);
        no(x -> x.bestLeans(0, -1, 2, 21, 2), -1);
        no(x -> x.bestLeans(0, 1, -1, 0, 2), -1);
        no(x -> x.bestLeans(0, 0, 1, 0, 0), -1);
        no(x -> x.bestLeans(0, 1, 0, 0, 0), -1);
        no(x -> x.bestLeans(1, 0, 0, 0, 0), -1);
        no(x -> x.bestLeans(0, 0, 0, -1, 0), -1);
        no(x -> x.bestLeans(0, 1, 2, -1, 0), -4);
        no(x -> x.bestLeans(0, 1, 2, -1, 2), -4);
        no(x -> x.bestLeans(0, 1, 2, 21, 0), -6);
        no(x -> x.bestLeans(0, 1, 2, 21, 2), -6);
        no(x -> x.bestLeans(0, 1, 2, 20, 2), -2);
        no(x -> x.bestLeans(0, 1, 2, 0, -1), -2);
    }

    private static void strengths() {
        of(26);
        says("-4; -6 99.");
        no(x -> x.mended(-1), -4);
        no(x -> x.mended(LEAST), -4);
        no(x -> x.mended(100), -6);
        no(x -> x.mended(MOST), -6);
        of(27);
        says("-4; -6 99.");
        no(x -> x.key(-1), -4);
        no(x -> x.key(LEAST), -4);
        no(x -> x.key(100), -6);
        no(x -> x.key(MOST), -6);
        of(28);
        says("-1; -4; -6 99.");
        no(x -> x.takes(4, 0), -1);
        no(x -> x.takes(-1, -1), -1);
        no(x -> x.takes(4, 100), -1);
        no(x -> x.takes(0, -1), -4);
        no(x -> x.takes(0, 100), -6);
        of(29);
        says("-1; -2.");
        no(x -> x.balanced(4, 0), -1);
        no(x -> x.balanced(-1, 2), -1);
        no(x -> x.balanced(0, 2), -2);
        no(x -> x.balanced(3, -1), -2);
    }

    private static void robbers() {
        of(30);
        says("-4; -6 99.");
        no(x -> x.thief(-1), -4);
        no(x -> x.thief(LEAST), -4);
        no(x -> x.thief(100), -6);
        no(x -> x.thief(MOST), -6);
        of(34);
        says("-1 either (one twice, too); -4; -6 99.");
        no(x -> x.two(8, 0, 0), -1);
        no(x -> x.two(0, 8, 0), -1);
        no(x -> x.two(-1, 0, -1), -1);
        no(x -> x.two(0, -1, 100), -1);
        no(x -> x.two(3, 3, 0), -1);
        no(x -> x.two(7, 7, -1), -1);
        no(x -> x.two(0, 1, -1), -4);
        no(x -> x.two(0, 7, LEAST), -4);
        no(x -> x.two(0, 1, 100), -6);
        no(x -> x.two(7, 1, MOST), -6);
    }

    private static void odds() {
        of(33);
        says("Refused as told: -1; -4 (n; t below 2); -6 (7; 20); -2.");
        no(x -> x.draught(8, 0, 2, 0), LONG + 1);
        no(x -> x.draught(-1, -1, 1, 2), LONG + 1);
        no(x -> x.draught(8, 8, 21, 0), LONG + 1);
        no(x -> x.draught(0, -1, 2, 0), LONG + 4);
        no(x -> x.draught(0, 0, 1, 0), LONG + 4);
        no(x -> x.draught(0, 0, 0, 0), LONG + 4);
        no(x -> x.draught(0, LEAST, LEAST, 2), LONG + 4);
        no(x -> x.draught(0, -1, 21, 2), LONG + 4);
        no(x -> x.draught(0, 8, 1, 2), LONG + 4);
        no(x -> x.draught(0, 8, 2, 0), LONG + 6);
        no(x -> x.draught(0, 7, 21, 0), LONG + 6);
        no(x -> x.draught(0, MOST, MOST, 2), LONG + 6);
        no(x -> x.draught(0, 7, 20, 2), LONG + 2);
        no(x -> x.draught(7, 0, 2, -1), LONG + 2);
    }

    private static void rows() {
        of(35);
        says("-1; -2.");
        no(x -> x.whatWas(4, 0), -1);
        no(x -> x.whatWas(-1, 2), -1);
        no(x -> x.whatWas(0, 2), -2);
        no(x -> x.whatWas(3, -1), -2);
        of(36);
        says("-4; -6 (99; 16, too).");
        no(x -> x.row(-1), -4);
        no(x -> x.row(LEAST), -4);
        no(x -> x.row(100), -6);
        no(x -> x.row(MOST), -6);
        LeansAgainstReason x = rack("ph999;t1000;");
        for (int i = 1; i <= 16; i++) {
            is(x.row(1), i);
        }
        is(x.row(0), -6);
        is(x.row(100), -6);
        is(x.row(-1), -4);
        is(x.count(6), 16);
        is(x.count(14), 1);
        is(x.count(16), 2);
        is(x.judge(), -9);
        is(x.row(1), 1);
    }

    private static void lotsAndImage() {
        of(39);
        says("-4; -6 20; -2; -3 no PURPOSES.");
        no(x -> x.lots(0, 7, 0), -4);
        no(x -> x.lots(-1, 7, 2), -4);
        no(x -> x.lots(LEAST, 7, 0), -4);
        no(x -> x.lots(21, 7, 0), -6);
        no(x -> x.lots(MOST, 7, -1), -6);
        no(x -> x.lots(20, 7, 2), -2);
        no(x -> x.lots(1, 7, -1), -2);
        LeansAgainstReason x = none();
        is(x.lots(0, 7, 2), -4);
        is(x.lots(21, 7, 2), -6);
        is(x.lots(20, 7, 2), -2);
        is(x.lots(20, 7, 0), -3);
        is(x.lots(1, 7, 1), -3);
        is(x.count(12) + 10 * x.count(13) + 100 * x.count(14) + 1000 * x.count(16), 1121);
        of(41);
        says("-3 there is none.");
        LeansAgainstReason y = rack("pp050;t1000;d05;");
        is(y.on(), -3);
        is(y.on(), -3);
        is(y.count(13), 2);
        is(y.count(2), 5);
        is(y.count(0), 1);
        is(y.image(), 5);
        is(y.on(), 5);
        is(y.count(13), 2);
    }

    // ---- what is only asked ----

    private static void onlyThought() {
        of("Terms");
        says("In mind, n DAYS on (0 .. 99): whether a THING is UP (1, 0); how many are UP; STRENGTH of a PURPOSE, LOAD.");
        asks(x -> x.upThen(0, 99));
        asks(x -> x.upThen(7, 0));
        asks(x -> x.allThen(99));
        asks(x -> x.purposeThen(3, 99, 0));
        asks(x -> x.purposeThen(3, 99, 1));
        asks(x -> x.falls(2));
        for (int what = 0; what < 4; what++) {
            int told = what;
            asks(x -> x.first(told));
            asks(x -> x.thing(7, told));
            asks(x -> x.purpose(3, told));
        }
        asks(x -> x.purpose(3, 4));
        asks(x -> x.at(19));
        asks(x -> x.spare(2));
        asks(x -> x.count(8));
        asks(x -> x.count(3));
        asks(x -> x.pushed(0));
        asks(x -> x.worst(0));
        asks(x -> x.worst(1));
        asks(x -> x.gap(0));
        asks(x -> x.longest(0));
        asks(x -> x.longest(1));
        asks(x -> x.bestPlace(0, 0));
        asks(x -> x.bestPlace(0, 1));
    }

    private static void stillThought() {
        of("Terms");
        says("In mind, n DAYS on (0 .. 99): whether a THING is UP (1, 0); how many are UP; STRENGTH of a PURPOSE, LOAD.");
        asks(x -> x.lean(0));
        asks(x -> x.bestLeans(7, 0, 2, 20, 0));
        asks(x -> x.bestLeans(7, 0, 2, 20, 1));
        asks(x -> x.mended(30));
        asks(x -> x.key(30));
        asks(x -> x.takes(2, 30));
        asks(x -> x.balanced(0, 0));
        asks(x -> x.balanced(0, 1));
        asks(x -> x.thief(99));
        asks(x -> x.robbed());
        asks(x -> x.draught(4, 7, 20, 0));
        asks(x -> x.draught(4, 7, 20, 1));
        asks(x -> x.two(0, 7, 30));
        asks(x -> x.two(4, 0, 30));
        asks(x -> x.whatWas(1, 0));
        asks(x -> x.whatWas(1, 1));
        asks(x -> x.lots(20, 7, 0));
        asks(x -> x.lots(20, 7, 1));
    }
}
