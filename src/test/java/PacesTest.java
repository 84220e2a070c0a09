/** Promises 12 to 17: pace, sign, round, leads, found, off. */
public final class PacesTest {

    public static void main(String[] args) {
        paces();
        signs();
        rounds();
        leaders();
        weights();
        Due.end();
    }

    private static GlassWords by(int... rules) {
        GlassWords x = new GlassWords();
        Due.rules(x, rules);
        return x;
    }

    private static void paces() {
        GlassWords x = by(5, 9, 4, 5, 1, -1);
        int[] reader = {5, 7, 8, 8};
        int[] knob = {9, 6, 5, 5};
        for (int n = 0; n < 4; n++) {
            Due.due("pace(" + n + ", 0)", x.pace(n, 0), reader[n]);
            Due.due("pace(" + n + ", 1)", x.pace(n, 1), knob[n]);
        }
        Due.due("pace(200, 0)", x.pace(200, 0), 8);
        Due.due("ruled(0)", x.ruled(0), 5);
        Due.due("pace(-1, 0)", x.pace(-1, 0), Due.BEYOND);
        Due.due("pace(201, 0)", x.pace(201, 0), Due.BEYOND);
        Due.due("pace(0, -1)", x.pace(0, -1), Due.BEYOND);
        Due.due("pace(0, 2)", x.pace(0, 2), Due.BEYOND);
        GlassWords swap = by(20, 30, 10, 10, 0, 0);
        Due.due("pace(199, 0)", swap.pace(199, 0), 30);
        Due.due("pace(200, 0)", swap.pace(200, 0), 20);
    }

    /** 3 is left out: over all rules and paces there is no round of more than two turns, and none begins behind 200. */
    private static void signs() {
        Due.due("sign() holds", by(4, 4, 5, 5, 0, 0).sign(), 0);
        Due.due("sign() holds at the edge", by(60, 60, 0, 0, 9, 9).sign(), 0);
        Due.due("sign() falls asleep", by(60, 70, 10, 10, 0, 0).sign(), 1);
        Due.due("sign() falls asleep at 50", by(50, 99, 10, 10, 0, 0).sign(), 1);
        Due.due("sign() falls asleep at 50", by(99, 50, 10, 10, 0, 0).sign(), 1);
        Due.due("sign() goes round by 49", by(99, 49, 10, 10, 0, 0).sign(), 2);
        Due.due("sign() goes round by 49", by(49, 99, 10, 10, 0, 0).sign(), 2);
        Due.due("sign() goes round", by(20, 30, 10, 10, 0, 0).sign(), 2);
        GlassWords x = by(20, 30, 10, 10, 0, 0);
        x.sign();
        Due.due("ruled(0)", x.ruled(0), 20);
    }

    private static void rounds() {
        GlassWords swap = by(20, 30, 10, 10, 0, 0);
        Due.due("round(0)", swap.round(0), 0);
        Due.due("round(1)", swap.round(1), 2);
        GlassWords drift = by(4, 4, 0, 0, 9, 0);
        Due.due("round(0)", drift.round(0), 11);
        Due.due("round(1)", drift.round(1), 1);
        Due.due("ruled(0)", drift.ruled(0), 4);
        GlassWords both = by(13, 63, 7, 7, 3, -3);
        Due.due("round(0)", both.round(0), 3);
        Due.due("round(1)", both.round(1), 2);
        Due.due("round(-1)", swap.round(-1), Due.BEYOND);
        Due.due("round(2)", swap.round(2), Due.BEYOND);
    }

    private static void leaders() {
        Due.due("leads() the reader", by(20, 30, 0, 10, 0, 0).leads(), 0);
        Due.due("leads() the knob", by(20, 30, 10, 0, 0, 0).leads(), 1);
        Due.due("leads() both", by(20, 30, 10, 10, 0, 0).leads(), 2);
        Due.due("leads() alike", by(20, 20, 1, 5, 3, 0).leads(), 2);
        Due.due("leads() as now, not as then", by(20, 30, 0, 0, 0, -9).leads(), 0);
    }

    /** The second line is read by 4 to 9 tenths a word as A goes from 0 to 10; the first one always takes 20. */
    private static void weights() {
        GlassWords x = Due.withWords(5, 10);
        Due.rules(x, 4, 9, 3, 3, 0, 0);
        int[][] hours = {{92, 66, 2}, {95, 66, 5}, {96, 88, 4}, {0, 0, 60}, {99999, 110, 99889}, {70, 22, 0}};
        for (int[] hour : hours) {
            x.rule(9, hour[0]);
            Due.due("found() by " + hour[0], x.found(), hour[1]);
            Due.due("off() by " + hour[0], x.off(), hour[2]);
        }
        Due.due("ruled(2)", x.ruled(2), 3);
        x.go(1);
        x.rule(9, 35);
        Due.due("found() of the last", x.found(), 0);
        Due.due("off() of the last", x.off(), 5);
        knobsWeight();
    }

    /** By A 5 and B 4 the paces go 1/21, 11/13, 12/..: 1, 11 and 120 tenths. */
    private static void knobsWeight() {
        GlassWords x = Due.withWords(1, 1, 10);
        Due.rules(x, 1, 21, 5, 5, 0, 0);
        x.rule(9, 132);
        Due.due("found() by both", x.found(), 59);
        Due.due("off() by both", x.off(), 0);
    }
}
