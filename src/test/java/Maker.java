import java.util.ArrayList;
import java.util.Collections;
import java.util.List;
import java.util.Random;

/** Makes random texts of programs, most of them without a FAULT. */
final class Maker {
    private final Random random;
    private final List<Character> cells = new ArrayList<>();
    private final List<Character> finals = new ArrayList<>();
    private int actionsLeft;
    private int statementsLeft;
    private boolean done;
    private int held;
    private List<Integer> locals = new ArrayList<>();

    Maker(long seed) {
        random = new Random(seed);
    }

    private int pick(int n) {
        return random.nextInt(n);
    }

    String program(int threads, int actions) {
        cells.clear();
        finals.clear();
        actionsLeft = actions;
        statementsLeft = 20;
        done = false;
        StringBuilder text = new StringBuilder();
        List<Character> names = new ArrayList<>(List.of('u', 'v', 'w', 'x', 'y', 'z'));
        Collections.shuffle(names, random);
        int count = 1 + pick(3);
        boolean withFinal = pick(3) == 0;
        int volatiles = pick(3);
        for (int i = 0; i < count; i++) {
            boolean fin = withFinal && i == 0;
            String kind = fin ? "final" : pick(3) < volatiles ? "volatile" : "plain";
            text.append(kind).append(' ').append(names.get(i)).append(';');
            (fin ? finals : cells).add(names.get(i));
        }
        List<Integer> free = new ArrayList<>(List.of(0, 1, 2, 3, 4));
        Collections.shuffle(free, random);
        int makerThread = pick(threads);
        for (int t = 0; t < threads; t++) {
            int mine = 5 / threads + (t < 5 % threads ? 1 : 0);
            locals = new ArrayList<>(free.subList(0, mine));
            free = new ArrayList<>(free.subList(mine, free.size()));
            held = 0;
            text.append("thread{");
            block(text, Math.max(1, actions / threads + pick(2)), 0, t == makerThread);
            text.append('}');
        }
        return text.toString();
    }

    private String local() {
        return "r" + locals.get(pick(locals.size()));
    }

    private String sum() {
        switch (pick(4)) {
            case 0:
                return local();
            case 1:
                return local() + "+" + pick(10);
            default:
                return "" + (1 + pick(3));
        }
    }

    private void block(StringBuilder text, int wanted, int depth, boolean maker) {
        for (int n = 0; n < wanted && statementsLeft > 0; n++) {
            statementsLeft--;
            int what = pick(20);
            if (what < 2 && depth < 3 && statementsLeft > 2) {
                text.append("if " + local() + "==" + pick(3) + "{");
                block(text, 1 + pick(2), depth + 1, maker);
                text.append('}');
                if (pick(2) == 0) {
                    text.append("else{");
                    block(text, pick(2), depth + 1, maker);
                    text.append('}');
                }
            } else if (what < 3) {
                text.append(local() + "=" + sum() + ";");
            } else if (actionsLeft > 0) {
                actionsLeft--;
                action(text, what, depth, maker);
            }
        }
    }

    private void action(StringBuilder text, int what, int depth, boolean maker) {
        if (what < 6 && depth == 0) {
            int m = pick(2);
            text.append((held >> m & 1) != 0 ? "unlock m" : "lock m").append(m).append(';');
            held ^= 1 << m;
        } else if (what < 10 && !finals.isEmpty() && maker && depth == 0 && !done) {
            if (pick(2) == 0) {
                done = true;
                text.append("done;");
            } else {
                text.append(finals.get(0) + "=" + sum() + ";");
            }
        } else if (what < 10 && !finals.isEmpty()) {
            text.append(local() + "=" + local() + "." + finals.get(0) + ";");
        } else if (cells.isEmpty() || !finals.isEmpty() && pick(8) == 0) {
            List<Character> all = new ArrayList<>(cells);
            all.addAll(finals);
            text.append(local() + "=" + all.get(pick(all.size())) + ";");
        } else if (pick(2) == 0) {
            text.append(cells.get(pick(cells.size())) + "=" + sum() + ";");
        } else {
            text.append(local() + "=" + cells.get(pick(cells.size())) + ";");
        }
    }

    /** A MAKER that publishes a final cell, and others that read through what they see of it. */
    String publishing(int readers) {
        StringBuilder text = new StringBuilder("final z;" + (pick(4) == 0 ? "volatile" : "plain") + " x;plain y;");
        String[] parts = {"z=" + (1 + pick(3)) + ";", "x=1;", "done;", "x=2;", "y=1;", "z=4;"};
        List<String> row = new ArrayList<>();
        for (int i = 0; i < 4; i++) {
            String part = parts[pick(parts.length)];
            boolean late = row.contains("done;") && (part.startsWith("z") || part.startsWith("d"));
            if (!late) {
                row.add(part);
            }
        }
        List<String> threads = new ArrayList<>();
        threads.add("thread{" + String.join("", row) + "}");
        int left = 8 - row.size();
        for (int t = 0; t < readers && left > 0; t++) {
            locals = new ArrayList<>(t == 0 ? List.of(0, 1) : t == 1 ? List.of(2, 3) : List.of(4));
            StringBuilder thread = new StringBuilder("thread{");
            for (int n = 0; n < 3 && left > 0; n++) {
                String[] some = {local() + "=x;", local() + "=x;", local() + "=" + local() + ".z;",
                    local() + "=" + local() + ".z;", local() + "=y;", "x=3;", local() + "=z;"};
                thread.append(some[pick(some.length)]);
                left--;
                if (pick(4) == 0) {
                    thread.append(local() + "=" + sum() + ";");
                }
            }
            threads.add(thread.append('}').toString());
        }
        Collections.shuffle(threads, random);
        return text + String.join("", threads);
    }

    /** Two or three threads that crowd on one plain cell, with something volatile or a MONITOR between. */
    String crowded(int threads) {
        StringBuilder text = new StringBuilder("plain x;volatile v;");
        int left = 8;
        for (int t = 0; t < threads; t++) {
            locals = new ArrayList<>(threads == 2 ? List.of(2 * t, 2 * t + 1) : List.of(t));
            text.append("thread{");
            boolean locked = false;
            for (int n = 0; n < (threads == 2 ? 4 : 3) && left > 0; n++) {
                String[] some = {"x=" + (left + 1) + ";", "x=" + (left + 1) + ";", local() + "=x;", local() + "=v;", "v=1;",
                    locked ? "unlock m0;" : "lock m0;"};
                String part = some[pick(some.length)];
                locked = part.contains("lock") ? !locked : locked;
                text.append(part);
                left--;
            }
            text.append('}');
        }
        return text.toString();
    }

    /** The text with a TOKEN or two changed, left out, twice, or a few signs spoilt. */
    String spoilt(String text) {
        String changed = text;
        int times = 1 + pick(3);
        for (int i = 0; i < times; i++) {
            changed = pick(4) == 0 ? withSignsSpoilt(changed) : withTokenSpoilt(changed);
        }
        return changed.length() > 1000 ? changed.substring(0, 1000) : changed;
    }

    private static final String[][] GROUPS = {
        {"plain", "volatile", "final"}, {"lock", "unlock", "done", "lock m0;", "unlock m1;"},
        {"u", "v", "w", "x", "y", "z"}, {"r0", "r1", "r2", "r3", "r4"}, {"m0", "m1"},
        {"0", "1", "2", "9"}, {";", "=", "==", "+", ".", "{", "}"}, {"thread", "if", "else"},
    };

    private String withTokenSpoilt(String text) {
        List<String> tokens = new ArrayList<>(List.of(text.split("(?<=[^a-z0-9])|(?=[^a-z0-9])")));
        int at = pick(tokens.size());
        String token = tokens.get(at);
        switch (pick(8)) {
            case 0:
                tokens.remove(at);
                break;
            case 1:
                int to = Math.min(tokens.size(), at + 1 + pick(12));
                tokens.addAll(pick(tokens.size()), new ArrayList<>(tokens.subList(at, to)));
                break;
            case 2:
                String[] group = GROUPS[pick(GROUPS.length)];
                tokens.add(at, group[pick(group.length)]);
                break;
            case 3:
                tokens.add(at, pick(2) == 0 ? "lock m0;" : "if r" + pick(5) + "==0{}");
                break;
            default:
                for (String[] like : GROUPS) {
                    if (List.of(like).contains(token)) {
                        tokens.set(at, like[pick(like.length)]);
                    }
                }
                break;
        }
        return String.join("", tokens);
    }

    private String withSignsSpoilt(String text) {
        StringBuilder changed = new StringBuilder(text);
        String signs = "!\t\0AXr05;=.{} \n\u00e9\u00ff";
        int at = pick(changed.length() + 1);
        switch (pick(4)) {
            case 0:
                changed.insert(at, signs.charAt(pick(signs.length())));
                break;
            case 1:
                changed.delete(at, Math.min(changed.length(), at + 1 + pick(3)));
                break;
            case 2:
                changed.setLength(Math.max(at, 1));
                break;
            default:
                changed.insert(at, pick(2) == 0 ? " " : "\n");
                break;
        }
        return changed.length() == 0 ? " " : changed.toString();
    }
}
