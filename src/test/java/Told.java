/** What tests of texts share: TOWNS and SIGHTS that are right, or have a FAULT at the sign '!'. */
final class Told {

    /** MEN a, b, d; NAMES a, b, c, d: what SIGHTS are told of here. */
    static final String SEEN = "man a;man b;name c;man d;";

    private Told() {
    }

    static void good(String text, int lines) {
        GateNames x = new GateNames();
        Check.due("town() of <" + text + ">", Check.town(x, text), lines);
        Check.due("fault() of <" + text + ">", x.fault(), 0);
        Check.due("tape is empty behind town()", x.count(9), 0);
    }

    static void bad(String text, int place, int kind) {
        GateNames x = new GateNames();
        Check.due("town() of <" + text + ">", Check.town(x, text), -1 - place);
        Check.due("fault() of <" + text + ">", x.fault(), kind);
        Check.due("tape is empty behind town()", x.count(9), 0);
        Check.due("nothing came of <" + text + ">", x.count(1), 0);
    }

    /** The sign '!' is no part of the text. */
    static void marked(String text, int kind) {
        bad(without(text), text.indexOf('!'), kind);
    }

    static void goodSights(String text, int lines) {
        GateNames x = Check.with(SEEN);
        Check.due("sights() of <" + text + ">", Check.sights(x, text), lines);
        Check.due("fault() of <" + text + ">", x.fault(), 0);
        Check.due("LINES of <" + text + ">", x.count(8), lines);
        Check.due("tape is empty behind sights()", x.count(9), 0);
    }

    static void badSights(String text, int place, int kind) {
        GateNames x = Check.with(SEEN);
        Check.due("sights() of <" + text + ">", Check.sights(x, text), -1 - place);
        Check.due("fault() of <" + text + ">", x.fault(), kind);
        Check.due("tape is empty behind sights()", x.count(9), 0);
        Check.due("nothing came of <" + text + ">", x.count(8), 0);
    }

    static void markedSights(String text, int kind) {
        badSights(without(text), text.indexOf('!'), kind);
    }

    private static String without(String text) {
        int place = text.indexOf('!');
        return text.substring(0, place) + text.substring(place + 1);
    }
}
