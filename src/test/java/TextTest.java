/** Promises 1 to 5, 35 to 37: the tape, texts and their FAULTS, counts, images. */
public final class TextTest {
    private static final int NONE = QuotaParish.NONE;
    private static final Checks C = new Checks("TextTest");
    private static final String HOUSES = "house 1 1;house 1 1;house 1 1;house 1 1;house 1 1;house 1 1;house 1 1;";

    public static void main(String[] args) {
        newObject();
        tape();
        bytesOfNumbers();
        places();
        refusedTexts();
        wrongTokens();
        wrongNumbers();
        tooMany();
        absentHouses();
        images();
        C.finish();
    }

    private static void newObject() {
        QuotaParish x = new QuotaParish();
        C.due("NONE", QuotaParish.NONE, -1);
        for (int sort = 0; sort < 3; sort++) {
            C.due("count", x.count(sort), 0);
        }
        C.due("count(-1)", x.count(-1), -2);
        C.due("count(3)", x.count(3), -2);
        C.due("fault(0)", x.fault(0), 0);
        C.due("fault(1)", x.fault(1), NONE);
        C.due("fault(2)", x.fault(2), NONE);
        C.due("fault(-1)", x.fault(-1), NONE);
        C.due("again(0)", x.again(0), false);
        C.due("end(0)", x.end(0), 0);
        C.due("end(1)", x.end(1), NONE);
        C.due("parish", x.parish(0, 0), NONE);
        C.due("deed", x.deed(0, NONE, 0), -2);
        C.due("fact", x.fact(0, NONE, 0), -2);
    }

    private static void tape() {
        QuotaParish x = new QuotaParish();
        for (int i = 1; i <= 30; i++) {
            C.due("feed " + i, x.feed(1, 2, 3, 4, 5), 20 * i);
        }
        C.due("feed full", x.feed(1, 2, 3, 4, 5), NONE);
        C.due("end(600)", x.end(600), 600);
        C.due("end(601)", x.end(601), NONE);
        C.due("end(-1)", x.end(-1), NONE);
        C.due("end(min)", x.end(Integer.MIN_VALUE), NONE);
        C.due("end(581)", x.end(581), 581);
        C.due("feed 581", x.feed(0, 0, 0, 0, 0), NONE);
        C.due("end(582)", x.end(582), NONE);
        C.due("end(580)", x.end(580), 580);
        C.due("feed 580", x.feed(0, 0, 0, 0, 0), 600);
    }

    private static void bytesOfNumbers() {
        QuotaParish x = new QuotaParish();
        x.feed(0x71756f74, 0x61203432, 0x3b707269, 0x63652039, 0x3b202020);
        C.due("text", x.text(0, NONE), 0);
        C.due("quota", x.parish(0, 0), 42);
        C.due("price", x.parish(0, 1), 9);
        // A high byte is not a letter, whatever its sign.
        x.feed(0xe1e2e3e4, 0, 0, 0, 0);
        C.due("text high", x.text(0, NONE), NONE);
        C.due("fault high", x.fault(0), 1);
        C.due("place high", x.fault(1), 0);
    }

    private static void places() {
        QuotaParish x = new QuotaParish();
        C.due("text first", Checks.tell(x, 0, NONE, "quota 1;"), 0);
        C.due("text second", Checks.tell(x, 0, NONE, "quota 2;"), 1);
        C.due("count", x.count(0), 2);
        Checks.feed(x, "quota 3;");
        C.due("text third", x.text(0, NONE), -2);
        C.due("fault", x.fault(0), 0);
        C.due("quota as before", x.parish(1, 0), 2);
        C.due("text replaces", Checks.tell(x, 0, 1, "quota 3;"), 1);
        C.due("quota replaced", x.parish(1, 0), 3);
        C.due("quota other", x.parish(0, 0), 1);
        C.due("text fault", Checks.tell(x, 0, 0, "quota;"), NONE);
        C.due("quota stays", x.parish(0, 0), 1);
        C.due("tape is empty", x.feed(0, 0, 0, 0, 0), 20);
        x.end(0);
        C.due("text empty", x.text(0, 0), 0);
        C.due("quota at first", x.parish(0, 0), 10);
        C.due("years first", Checks.tell(x, 1, NONE, "year;"), 0);
        C.due("log first", Checks.tell(x, 2, NONE, "paid 0 1;"), 0);
        C.due("count years", x.count(1), 1);
        C.due("count logs", x.count(2), 1);
    }

    private static void refusedTexts() {
        QuotaParish x = new QuotaParish();
        Checks.tell(x, 0, NONE, "quota;");
        C.due("fault before", x.fault(0), 1);
        int[][] refused = {{-1, NONE}, {3, NONE}, {3, 0}, {0, 0}, {0, 1}, {0, -2}, {1, 0}, {2, 7}};
        for (int[] r : refused) {
            Checks.feed(x, "quota 5;");
            C.due("text(" + r[0] + ", " + r[1] + ")", x.text(r[0], r[1]), -2);
            C.due("fault then", x.fault(0), 0);
            C.due("place then", x.fault(1), NONE);
            C.due("the tape is taken", x.end(1), NONE);
        }
        C.due("the tape begins anew", x.feed(0, 0, 0, 0, 0), 20);
        for (int sort = 0; sort < 3; sort++) {
            C.due("no text was read", x.count(sort), 0);
        }
    }

    private static void faulty(int sort, String text, int fault, int place) {
        QuotaParish x = new QuotaParish();
        C.due("text " + text, Checks.tell(x, sort, NONE, text), fault == 0 ? 0 : NONE);
        C.due("fault of " + text, x.fault(0), fault);
        C.due("place of " + text, x.fault(1), place);
        C.due("count behind " + text, x.count(sort), fault == 0 ? 1 : 0);
    }

    private static void sound(int sort, String text) {
        faulty(sort, text, 0, NONE);
    }

    private static void wrongTokens() {
        sound(0, "");
        sound(1, " \n ");
        sound(2, "");
        sound(0, "quota5;price\n06 ; ");
        sound(1, "year;buy 0;lose 6;quota 0;price 99;cut 9;");
        sound(2, "paid 6 99;\npaid 0 0;");
        faulty(0, "quota", 1, 5);
        faulty(0, "quota 5", 1, 7);
        faulty(0, "quota 5 \n", 1, 9);
        faulty(0, "quota 100;", 1, 6);
        faulty(0, "quota 1 2;", 1, 8);
        faulty(0, "quota 1;;", 1, 8);
        faulty(0, "quota 1; 5", 1, 9);
        faulty(0, "quotas 1;", 1, 0);
        faulty(0, "quot 1;", 1, 0);
        faulty(0, "xuota 1;", 1, 0);
        faulty(0, "quotaz 1;", 1, 0);
        faulty(0, "zquota 1;", 1, 0);
        faulty(0, "quota 1`", 1, 7);
        faulty(0, "quota 1{", 1, 7);
        faulty(0, "quota /;", 1, 6);
        faulty(0, "quota 1:", 1, 7);
        faulty(0, "Quota 1;", 1, 0);
        faulty(0, "quota\t1;", 1, 5);
        faulty(0, "quota 1@", 1, 7);
        faulty(0, "quota x;", 1, 6);
        faulty(0, "house 1;", 1, 7);
        faulty(0, "house 1 2 3;", 1, 10);
        faulty(0, "house 123 4;", 1, 6);
        faulty(0, "pact 0 1;", 1, 8);
        faulty(0, "year;", 1, 0);
        faulty(0, "paid 0 0;", 1, 0);
        faulty(1, "house 1 1;", 1, 0);
        faulty(1, "year;year 1;", 1, 10);
        faulty(1, "buy;", 1, 3);
        faulty(2, "year;", 1, 0);
        faulty(2, "paid 1;", 1, 6);
        // Before all others, wherever they are.
        faulty(0, "tie 1 1;quota 1x", 1, 15);
        faulty(0, HOUSES + "house 1 1;quota", 1, 85);
        faulty(0, "office 6;quota 5", 1, 16);
    }

    private static void wrongNumbers() {
        sound(0, "house 99 9;");
        faulty(0, "house 99 10;", 2, 9);
        faulty(0, HOUSES + "office 7;", 2, 77);
        sound(0, HOUSES + "office 6;tie 6 0;pact 0 5 6;");
        faulty(0, "tie 7 7;", 2, 4);
        faulty(0, "tie 0 7;", 2, 6);
        faulty(0, "tie 0 00;", 2, 6);
        faulty(0, "pact 0 0 1;", 2, 7);
        faulty(0, "pact 0 1 0;", 2, 9);
        faulty(0, "pact 0 1 01;", 2, 9);
        faulty(0, "pact 1 2 7;", 2, 9);
        faulty(1, "buy 7;", 2, 4);
        faulty(1, "lose 07;", 2, 5);
        faulty(1, "year;cut 10;", 2, 9);
        faulty(2, "paid 7 0;", 2, 5);
        // The first by place.
        faulty(0, "house 1 10;tie 1 1;", 2, 8);
        faulty(0, "house 1 10;" + HOUSES, 2, 8);
    }

    private static void tooMany() {
        sound(0, HOUSES);
        faulty(0, HOUSES + "house 1 1;", 3, 70);
        faulty(0, HOUSES + "house 1 10;tie 0 0;", 3, 70);
        String ties = "tie 0 1;".repeat(5) + "pact 0 1 2;".repeat(5);
        sound(0, HOUSES + ties);
        faulty(0, HOUSES + ties + "tie 1 0;", 3, 165);
        faulty(0, HOUSES + ties + "\n pact 1 0 0;", 3, 167);
        sound(1, "year;".repeat(40));
        faulty(1, "year;".repeat(40) + " cut 10;", 3, 201);
        sound(2, "paid 0 0;".repeat(8));
        faulty(2, "paid 0 0;".repeat(9), 3, 72);
    }

    private static void absentHouses() {
        faulty(0, "office 0;", 4, 9);
        faulty(0, "tie 0 1;house 1 1; ", 4, 19);
        sound(0, "tie 0 1;house 1 1;house 1 1;");
        faulty(0, "house 1 1;tie 1 0;", 4, 18);
        faulty(0, "house 1 1;house 1 1;office 2;", 4, 29);
        faulty(0, "pact 0 1 2;house 1 1;house 1 1;", 4, 31);
        faulty(0, "pact 0 2 1;house 1 1;house 1 1;", 4, 31);
        faulty(0, "pact 2 0 1;house 1 1;house 1 1;", 4, 31);
        faulty(0, "office 0;tie 1 1;", 2, 15);
        sound(1, "buy 6;lose 6;cut 9;");
        sound(2, "paid 6 1;");
    }

    private static void images() {
        QuotaParish x = new QuotaParish();
        C.due("image(-1)", x.image(-1), false);
        C.due("image(3)", x.image(3), false);
        C.due("again(-1)", x.again(-1), false);
        C.due("again(3)", x.again(3), false);
        Checks.tell(x, 0, NONE, "quota 1;house 5 5;");
        Checks.tell(x, 0, NONE, "quota;");
        Checks.feed(x, "quota 2;");
        C.due("image(2)", x.image(2), true);
        C.due("text", x.text(0, 0), 0);
        Checks.tell(x, 1, NONE, "buy 0;");
        Checks.tell(x, 2, NONE, "paid 0 9;");
        C.due("image(0)", x.image(0), true);
        C.due("again(1)", x.again(1), false);
        C.due("again(2)", x.again(2), true);
        C.due("quota", x.parish(0, 0), 1);
        C.due("houses", x.parish(0, 2), 1);
        C.due("years", x.count(1), 0);
        C.due("logs", x.count(2), 0);
        C.due("fault", x.fault(0), 1);
        C.due("place", x.fault(1), 5);
        C.due("the tape too", x.end(8), 8);
        C.due("no more of it", x.end(9), NONE);
        C.due("text of it", x.text(0, NONE), 1);
        C.due("quota of it", x.parish(1, 0), 2);
        C.due("the other image", x.again(0), true);
        C.due("quota then", x.parish(0, 0), 2);
        C.due("parishes then", x.count(0), 1);
        C.due("deed then", x.deed(0, 0, 0), 1);
        C.due("fact then", x.fact(0, 0, 1), 9);
        C.due("fault then", x.fault(0), 0);
        C.due("image over", x.image(2), true);
        C.due("again over", x.again(2), true);
        C.due("quota over", x.parish(0, 0), 2);
    }
}
