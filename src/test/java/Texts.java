import java.util.Random;

/** Texts of tables by lot, good ones and spoilt ones. */
final class Texts {
    private static final String[] NAMES = {"a", "b", "wide", "coin", "first", "turns", "abcdefgh", "apart", "x", "loses"};
    private static final String[] BITS = {"table", "board", "jug", "piece", "lay", "loses", "wins", "apart", "wide",
        "high", "coin", "block", "corner", "turns", "first", "second", ";", ",", "0", "1", "2", "3", "4", "5", "9",
        "14", "007", "1234", "a", "b", "x", "abcdefghi", "#", "A", "", " ", "99", "\n", "\u00e9"};

    private Texts() {
    }

    static String table(Random random, int mostSquares) {
        StringBuilder text = new StringBuilder();
        String law = "table " + (random.nextInt(3) > 0 ? "loses" : "wins") + (random.nextInt(3) == 0 ? " apart" : "");
        boolean late = random.nextInt(6) == 0;
        if (!late) {
            text.append(law).append(';');
        }
        int names = random.nextInt(NAMES.length);
        int boards = 1 + random.nextInt(3);
        int left = mostSquares;
        for (int b = 0; b < boards && left > 0; b++) {
            int wide = 1 + random.nextInt(Math.min(8, left));
            int high = 1 + random.nextInt(Math.min(4, left / wide));
            left -= wide * high;
            String name = NAMES[names++ % NAMES.length];
            text.append("board ").append(name).append(" wide ").append(wide).append(" high ").append(high).append(';');
            boolean[] jugs = new boolean[32];
            for (int j = random.nextInt(6) - 3; j > 0; j--) {
                int square = random.nextInt(wide * high);
                if (!jugs[square]) {
                    text.append("jug ").append(name).append(' ').append(square % wide).append(',')
                            .append(square / wide).append(';');
                }
                jugs[square] = true;
            }
        }
        int pieces = 1 + random.nextInt(random.nextInt(4) == 0 ? 4 : 2);
        boolean owned = random.nextInt(3) == 0;
        for (int p = 0; p < pieces; p++) {
            text.append("piece ").append(NAMES[names++ % NAMES.length]).append(kind(random));
            text.append(random.nextBoolean() ? " turns" : "");
            text.append(owned ? new String[] {"", " first", " second"}[random.nextInt(3)] : "").append(';');
        }
        if (late) {
            text.append(law).append(';');
        }
        text.setLength(text.length() - 1);
        lays(random, text);
        return text.toString();
    }

    private static String kind(Random random) {
        switch (random.nextInt(3)) {
            case 0: return " coin";
            case 1: return " block " + (1 + random.nextInt(random.nextInt(3) + 2)) + "," + (1 + random.nextInt(2));
            default: return " corner " + (2 + random.nextInt(4) / 3) + "," + (2 + random.nextInt(4) / 3);
        }
    }

    /** Lays that may be: each is tried on an object first. */
    private static void lays(Random random, StringBuilder text) {
        CoinsLaid x = new CoinsLaid();
        Check.tell(x, text.toString());
        for (int l = random.nextInt(12) - 5; l > 0 && x.lays() > 0; l--) {
            int lay = x.layAt(random.nextInt(x.lays()));
            if (x.told(6) < 8) {
                text.append(";lay ").append(lay);
                x.puts(lay);
            }
        }
    }

    static String spoilt(Random random, String text) {
        StringBuilder spoilt = new StringBuilder(text);
        for (int times = 1 + random.nextInt(2); times > 0; times--) {
            int at = random.nextInt(spoilt.length() + 1);
            int upTo = Math.min(spoilt.length(), at + random.nextInt(4));
            String bit = BITS[random.nextInt(BITS.length)];
            switch (random.nextInt(4)) {
                case 0: spoilt.setLength(at); break;
                case 1: spoilt.delete(at, upTo); break;
                case 2: spoilt.insert(at, bit); break;
                default: swapToken(random, spoilt, bit); break;
            }
        }
        return spoilt.toString();
    }

    /** Puts another token in place of one. */
    private static void swapToken(Random random, StringBuilder text, String bit) {
        java.util.regex.Matcher m = java.util.regex.Pattern.compile("[a-z]+|[0-9]+|[;,]").matcher(text);
        java.util.List<int[]> places = new java.util.ArrayList<>();
        while (m.find()) {
            places.add(new int[] {m.start(), m.end()});
        }
        if (!places.isEmpty()) {
            int[] place = places.get(random.nextInt(places.size()));
            String instead = random.nextInt(4) == 0 ? ";" + BITS[random.nextInt(5)] + " " + bit : bit;
            text.replace(place[0], place[1], instead);
        }
    }
}
