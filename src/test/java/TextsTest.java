import java.util.ArrayList;
import java.util.HashMap;
import java.util.HashSet;
import java.util.List;
import java.util.Map;
import java.util.Random;
import java.util.Set;
import java.util.regex.Matcher;
import java.util.regex.Pattern;

/** Texts by lot, right and spoilt, against a second reader that goes by patterns of LINES. */
public final class TextsTest {

    private static final int TEXTS = 30000;
    private static final Set<String> OWN = Set.of(
            "man", "purse", "name", "comes", "brings", "owes", "foes", "is", "not");

    /** For each sort of LINE what comes behind its first WORD; '?' opens what may be left out. */
    private static final Map<String, String> LINES = Map.of(
            "man", "new (purse 0-3) ;", "name", "new ;", "comes", "MAN day 0-99 out ;",
            "brings", "NAME DAY (-) 0-99 (/ 0-12 odds) ;", "owes", "NAME other DAY 1-99 ;",
            "foes", "MAN foe ;");

    private static final Pattern TOKEN = Pattern.compile("[a-z0-9]+|[^ \n]", Pattern.DOTALL);

    /** A FAULT on its way out of the second reader. */
    private static final class Fault extends RuntimeException {
        private static final long serialVersionUID = 1;
        final int place;
        final int kind;

        Fault(int place, int kind) {
            super(null, null, false, false);
            this.place = place;
            this.kind = kind;
        }
    }

    private final List<String> tokens = new ArrayList<>();
    private final List<Integer> places = new ArrayList<>();
    private final Map<String, Integer> names = new HashMap<>();
    private final Map<String, Integer> men = new HashMap<>();
    private final Map<String, Integer> told = new HashMap<>();
    private final Set<String> days = new HashSet<>();
    private final Set<String> foes = new HashSet<>();
    private final int end;
    private int at;
    private String firstName;
    private int lastNumber;

    private TextsTest(String text, int limit) {
        Matcher matcher = TOKEN.matcher(text);
        while (matcher.find() && (text.length() <= limit || matcher.start() < limit)) {
            tokens.add(matcher.group());
            places.add(matcher.start());
        }
        end = Math.min(text.length(), limit);
        if (text.length() > limit) {
            tokens.add("\0");
            places.add(limit);
        }
    }

    public static void main(String[] args) {
        Random lot = new Random(44);
        for (int k = 0; k < TEXTS; k++) {
            String text = townByLot(lot);
            for (int spoil = lot.nextInt(3); spoil > 0; spoil--) {
                text = spoilt(text, lot);
            }
            text = lot.nextInt(8) == 0 ? padded(text, 900, lot) : text;
            tryTown(text.length() > 940 ? text.substring(0, 940) : text);
        }
        for (int k = 0; k < TEXTS; k++) {
            String text = sightsByLot(lot);
            for (int spoil = lot.nextInt(3); spoil > 0; spoil--) {
                text = spoilt(text, lot);
            }
            text = lot.nextInt(8) == 0 ? padded(text, 300, lot) : text;
            trySights(text.length() > 400 ? text.substring(0, 400) : text);
        }
        Check.end("TextsTest");
    }

    // ---- the second reader

    private String token() {
        return at < tokens.size() ? tokens.get(at) : "";
    }

    private int place() {
        return at < tokens.size() ? places.get(at) : end;
    }

    private Fault fault(int kind) {
        return new Fault(place(), kind);
    }

    private int readTown() {
        int lines = 0;
        for (; at < tokens.size(); at++) {
            String sort = token();
            if (!LINES.containsKey(sort)) {
                throw fault(1);
            }
            if (sort.equals("man") && men.size() == 8
                    || (sort.equals("man") || sort.equals("name")) && names.size() == 12
                    || told.merge(sort, 1, Integer::sum) > 40
                            && (sort.equals("comes") || sort.equals("brings") || sort.equals("owes"))) {
                throw fault(4);
            }
            at++;
            String[] parts = LINES.get(sort).split(" ");
            for (int k = 0; k < parts.length; k++) {
                k = part(parts, k, sort);
            }
            at--;
            lines++;
        }
        return lines;
    }

    private int part(String[] parts, int k, String sort) {
        String part = parts[k];
        if (part.startsWith("(")) {
            boolean here = token().equals(part.substring(1).replace(")", ""));
            if (!here) {
                int last = k;
                while (!parts[last].endsWith(")")) {
                    last++;
                }
                return last;
            }
            at++;
        } else {
            one(part.replace(")", ""), sort);
            at++;
        }
        return k;
    }

    private void one(String part, String sort) {
        switch (part) {
            case ";" -> {
                if (!token().equals(";")) {
                    throw fault(1);
                }
            }
            case "new" -> {
                word();
                if (names.containsKey(token())) {
                    throw fault(3);
                }
                names.put(token(), names.size());
                if (sort.equals("man")) {
                    men.put(token(), men.size());
                }
            }
            case "MAN" -> firstName = known(men);
            case "NAME" -> firstName = known(names);
            case "other" -> {
                if (known(names).equals(firstName)) {
                    throw fault(3);
                }
            }
            case "foe" -> {
                String foe = known(men);
                if (foe.equals(firstName) || !foes.add(firstName + " " + foe)) {
                    throw fault(3);
                }
                foes.add(foe + " " + firstName);
            }
            case "DAY" -> number(0, 29);
            case "day" -> {
                number(0, 29);
                if (!days.add(firstName + " " + lastNumber)) {
                    throw fault(3);
                }
            }
            case "out" -> number(lastNumber, 99);
            case "odds" -> number(Math.max(1, lastNumber), 12);
            default -> number(Integer.parseInt(part.split("-")[0]), Integer.parseInt(part.split("-")[1]));
        }
    }

    private void word() {
        if (!token().matches("[a-z]{1,6}") || OWN.contains(token())) {
            throw fault(1);
        }
    }

    private String known(Map<String, Integer> those) {
        word();
        if (!those.containsKey(token())) {
            throw fault(3);
        }
        return token();
    }

    private void number(int least, int most) {
        if (!token().matches("[0-9]{1,2}")) {
            throw fault(1);
        }
        lastNumber = Integer.parseInt(token());
        if (lastNumber < least || lastNumber > most) {
            throw fault(2);
        }
    }

    private int readSights() {
        int lines = 0;
        for (; at < tokens.size(); at++) {
            known(names);
            if (lines == 16) {
                throw fault(4);
            }
            at++;
            if (!token().equals("is") && !token().equals("not")) {
                throw fault(1);
            }
            at++;
            known(men);
            for (at++; !token().equals(";"); at++) {
                known(men);
            }
            lines++;
        }
        return lines;
    }

    // ---- texts by lot

    private static String pick(Random lot, String... those) {
        return those[lot.nextInt(those.length)];
    }

    private static String gap(Random lot) {
        return pick(lot, " ", " ", " ", "\n", "  ");
    }

    private static String townByLot(Random lot) {
        StringBuilder text = new StringBuilder();
        List<String> men = new ArrayList<>();
        List<String> names = new ArrayList<>();
        int lines = lot.nextInt(5) == 0 ? 90 : lot.nextInt(14);
        int told = 1 + lot.nextInt(9);
        for (int k = 0; k < lines && text.length() < 900; k++) {
            String name = Character.toString('a' + lot.nextInt(26)) + pick(lot, "", "", "b", "purse");
            boolean fresh = !names.contains(name);
            if (fresh && names.size() < told && lot.nextInt(3) > 0) {
                men.add(name);
                names.add(name);
                text.append("man ").append(name).append(pick(lot, "", " purse 0", " purse 3")).append(';');
            } else if (fresh && names.size() < told) {
                names.add(name);
                text.append("name").append(gap(lot)).append(name).append(gap(lot)).append(';');
            } else if (!men.isEmpty() && names.size() > 1) {
                text.append(lineByLot(lot, men, names));
            }
        }
        return text.toString();
    }

    private static String lineByLot(Random lot, List<String> men, List<String> names) {
        String m = men.get(lot.nextInt(men.size()));
        String n = names.get(lot.nextInt(names.size()));
        int from = lot.nextInt(100);
        int of = 1 + lot.nextInt(12);
        return switch (lot.nextInt(lot.nextInt(10) == 0 ? 4 : 3)) {
            case 0 -> "comes " + m + gap(lot) + lot.nextInt(30) + " " + from + gap(lot)
                    + (from + lot.nextInt(100 - from)) + ";";
            case 1 -> "brings " + n + " " + lot.nextInt(30) + pick(lot, " ", "-", "- ") + lot.nextInt(100)
                    + (lot.nextBoolean() ? "/" + lot.nextInt(of + 1) + gap(lot) + of : "") + ";";
            case 2 -> "owes " + n + " " + names.get((names.indexOf(n) + 1) % names.size()) + gap(lot)
                    + lot.nextInt(30) + " " + (1 + lot.nextInt(99)) + ";";
            default -> "foes " + m + " " + men.get(lot.nextInt(men.size())) + ";";
        };
    }

    private static String sightsByLot(Random lot) {
        StringBuilder text = new StringBuilder();
        int lines = lot.nextInt(5) == 0 ? 15 + lot.nextInt(4) : lot.nextInt(6);
        for (int k = 0; k < lines; k++) {
            text.append(pick(lot, "a", "b", "c", "de")).append(pick(lot, " is", "\nnot"));
            for (int more = lot.nextInt(3); more >= 0; more--) {
                text.append(gap(lot)).append(pick(lot, "a", "b", "de"));
            }
            text.append(';');
        }
        return text.toString();
    }

    private static String spoilt(String text, Random lot) {
        int place = lot.nextInt(text.length() + 1);
        int last = Math.min(text.length(), place + lot.nextInt(4));
        String head = text.substring(0, place);
        return switch (lot.nextInt(6)) {
            case 0 -> head + text.substring(last);
            case 1 -> head + pick(lot, " ", ";", "-", "/", ".", "a", "9", "0", "\t", "A", "\u00e9")
                    + text.substring(place);
            case 2 -> head + pick(lot, "man", "is", "purse", " a ", " 30 ", " 13 ", "1", " / ") + text.substring(last);
            case 3 -> head + text.substring(0, last);
            case 4 -> head;
            default -> text.replaceFirst(pick(lot, "a", " ", ";", "[0-9]+", "[a-z]+"),
                    pick(lot, "b", "99", "0", "12", "name", " "));
        };
    }

    private static String padded(String text, int length, Random lot) {
        int gap = Math.max(0, length - 3 + lot.nextInt(7) - text.length());
        int place = text.indexOf(' ', text.length() * 2 / 3);
        int split = place < 0 ? text.length() : place;
        return text.substring(0, split) + " ".repeat(gap) + text.substring(split);
    }

    // ---- comparing

    private static void tryTown(String text) {
        TextsTest reader = new TextsTest(text, 900);
        int answer;
        int kind = 0;
        try {
            answer = reader.readTown();
        } catch (Fault fault) {
            answer = -1 - fault.place;
            kind = fault.kind;
        }
        GateNames x = new GateNames();
        Check.due("town() of <" + text + ">", Check.town(x, text), answer);
        Check.due("fault() of <" + text + ">", x.fault(), kind);
        Check.due("NAMES of <" + text + ">", x.count(1), kind == 0 ? reader.names.size() : 0);
        Check.due("MEN of <" + text + ">", x.count(0), kind == 0 ? reader.men.size() : 0);
    }

    private static void trySights(String text) {
        TextsTest reader = new TextsTest(text, 300);
        reader.names.putAll(Map.of("a", 0, "b", 1, "c", 2, "de", 3));
        reader.men.putAll(Map.of("a", 0, "b", 1, "de", 2));
        int answer;
        int kind = 0;
        try {
            answer = reader.readSights();
        } catch (Fault fault) {
            answer = -1 - fault.place;
            kind = fault.kind;
        }
        GateNames x = Check.with("man a;man b;name c;man de;");
        Check.due("sights() of <" + text + ">", Check.sights(x, text), answer);
        Check.due("fault() of <" + text + ">", x.fault(), kind);
    }
}
