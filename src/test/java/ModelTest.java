import java.util.Random;

/** All promises by runs of calls by lot, each answer beside that of the Model. */
public final class ModelTest {
    private static final Check check = new Check("ModelTest");
    private static final int CALLS = 512;
    private static final String[] NAMES = {"feed", "table", "fault", "where", "lay", "layOf", "may", "lays", "layAt",
        "across", "taken", "dead", "over", "has", "best", "good", "soonest", "ways", "heap", "byAcross", "half",
        "spoils", "open", "elbow", "fewest", "most", "lot", "size", "rows", "rowLay", "round", "would", "match",
        "matchLong", "beats", "puts", "takes", "plays", "seed", "undo", "image", "back", "led", "told", "trouble"};
    private static final int[] ARGUMENTS = {5, 1, 0, 0, 2, 5, 1, 0, 1, 1, 0, 0, 0, 0, 0, 0, 0, 0, 1, 0, 1, 1, 1, 0, 0,
        0, 0, 2, 4, 3, 2, 1, 2, 2, 1, 1, 0, 1, 1, 0, 0, 1, 1, 1, 0};
    private static final int[] WILD = {-1, -2, 0, 1, 7, 13, 14, 15, 99, 100, 200, 201, 900, 65536, 65537,
        Integer.MAX_VALUE, Integer.MIN_VALUE, 1 << 30, -(1 << 30)};

    private final Random random;
    private final CoinsLaid x = new CoinsLaid();
    private final Model model = new Model();
    private final int run;
    private int calls;

    private ModelTest(int run) {
        this.run = run;
        this.random = new Random(run);
    }

    public static void main(String[] args) {
        int runs = args.length > 0 ? Integer.parseInt(args[0]) : 400;
        for (int run = 0; run < runs; run++) {
            new ModelTest(run).oneRun();
        }
        check.end();
    }

    private void oneRun() {
        int most = 3 + random.nextInt(7) + (run % 20 == 0 ? 5 : 0);
        while (calls < CALLS - 60) {
            String text = Texts.table(random, most);
            if (random.nextInt(3) == 0) {
                text = Texts.spoilt(random, text);
            }
            tell(text);
            int acts = random.nextInt(60);
            for (int i = 0; i < acts && calls < CALLS - 60; i++) {
                any();
            }
        }
        for (String name : NAMES) {
            if (!name.equals("feed")) {
                both(name, arguments(name));
            }
        }
    }

    private void tell(String text) {
        for (int at = 0; at < text.length(); at += 20) {
            int[] five = new int[5];
            for (int i = 0; i < 20; i++) {
                five[i / 4] = five[i / 4] << 8 | (at + i < text.length() ? text.charAt(at + i) : ' ');
            }
            both("feed", five);
        }
        both("table", text.length());
        both("fault");
        both("where");
    }

    private void any() {
        String name;
        int kind = random.nextInt(10);
        if (kind < 3) {
            name = new String[] {"puts", "plays", "plays", "takes", "undo", "image", "back", "seed", "puts"}[random.nextInt(9)];
        } else {
            do {
                name = NAMES[random.nextInt(NAMES.length)];
            } while (name.equals("feed") || name.equals("table") && random.nextInt(10) > 0);
        }
        both(name, arguments(name));
        if (random.nextInt(3) == 0) {
            both("trouble");
        }
    }

    private int[] arguments(String name) {
        int[] a = new int[ARGUMENTS[java.util.Arrays.asList(NAMES).indexOf(name)]];
        Model.Told table = model.table();
        int lays = table == null ? 1 : table.lays.size();
        for (int i = 0; i < a.length; i++) {
            a[i] = small(name, i, lays);
        }
        if (name.equals("layOf") && lays > 0 && table != null && random.nextBoolean()) {
            Model.Lay lay = table.lays.get(random.nextInt(lays));
            a = new int[] {lay.piece(), lay.board(), lay.x(), lay.y(), lay.turns()};
        }
        if (name.equals("puts") && table != null && random.nextInt(4) > 0) {
            java.util.List<Integer> lying = model.state().lying();
            java.util.List<Integer> may = table.may(table.taken(lying), lying.size() % 2);
            if (!may.isEmpty()) {
                a[0] = may.get(random.nextInt(may.size()));
            }
        }
        if (a.length > 0 && random.nextInt(15) == 0) {
            a[random.nextInt(a.length)] = WILD[random.nextInt(WILD.length)];
        }
        return a;
    }

    private int small(String name, int i, int lays) {
        switch (name) {
            case "lay": return i == 0 ? random.nextInt(lays + 1) : random.nextInt(6);
            case "layOf": return random.nextInt(4);
            case "may": case "across": case "spoils": case "puts": return random.nextInt(lays + 1);
            case "layAt": return random.nextInt(6);
            case "heap": return random.nextInt(4) - 1;
            case "half": case "back": return random.nextInt(3);
            case "open": return random.nextInt(14);
            case "size": return i == 0 ? random.nextInt(201) : 1 + random.nextInt(9);
            case "rows": return i < 3 ? random.nextInt(201) : 1 + random.nextInt(9);
            case "rowLay": return i == 0 ? random.nextInt(201) : i == 1 ? 1 + random.nextInt(9) : random.nextInt(10);
            case "round": return i == 0 ? 1 + random.nextInt(9) : random.nextInt(2);
            case "seed": return random.nextInt(65537);
            case "told": return random.nextInt(12);
            case "led": return random.nextInt(4);
            default: return random.nextInt(5);
        }
    }

    private void both(String name, int... a) {
        calls++;
        StringBuilder call = new StringBuilder("run " + run + " call " + calls + " " + name + "(");
        for (int v : a) {
            call.append(' ').append(v);
        }
        call.append(')');
        check.due(call.toString(), asked(name, a), model.call(name, a));
    }

    private long asked(String name, int... a) {
        switch (name) {
            case "feed": return x.feed(a[0], a[1], a[2], a[3], a[4]);
            case "table": return x.table(a[0]);
            case "fault": return x.fault();
            case "where": return x.where();
            case "lay": return x.lay(a[0], a[1]);
            case "layOf": return x.layOf(a[0], a[1], a[2], a[3], a[4]);
            case "may": return x.may(a[0]);
            case "lays": return x.lays();
            case "layAt": return x.layAt(a[0]);
            case "across": return x.across(a[0]);
            case "taken": return x.taken();
            case "dead": return x.dead();
            case "over": return x.over();
            case "has": return x.has();
            case "best": return x.best();
            case "good": return x.good();
            case "soonest": return x.soonest();
            case "ways": return x.ways();
            case "heap": return x.heap(a[0]);
            case "byAcross": return x.byAcross();
            case "half": return x.half(a[0]);
            case "spoils": return x.spoils(a[0]);
            case "open": return x.open(a[0]);
            case "elbow": return x.elbow();
            case "fewest": return x.fewest();
            case "most": return x.most();
            case "lot": return x.lot();
            case "size": return x.size(a[0], a[1]);
            case "rows": return x.rows(a[0], a[1], a[2], a[3]);
            case "rowLay": return x.rowLay(a[0], a[1], a[2]);
            case "round": return x.round(a[0], a[1] != 0);
            case "would": return x.would(a[0]);
            case "match": return x.match(a[0], a[1]);
            case "matchLong": return x.matchLong(a[0], a[1]);
            case "beats": return x.beats(a[0]);
            case "puts": return x.puts(a[0]) ? 1 : 0;
            case "takes": return x.takes();
            case "plays": return x.plays(a[0]);
            case "seed": return x.seed(a[0]) ? 1 : 0;
            case "undo": return x.undo() ? 1 : 0;
            case "image": return x.image();
            case "back": return x.back(a[0]) ? 1 : 0;
            case "led": return Check.ledThrows(x, a[0]) ? Model.THROWS : x.led(a[0]);
            case "told": return x.told(a[0]);
            default: return x.trouble();
        }
    }
}
