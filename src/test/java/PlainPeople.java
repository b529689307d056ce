import java.util.ArrayList;
import java.util.Arrays;
import java.util.HashMap;
import java.util.List;
import java.util.Map;
import java.util.TreeMap;

/**
 * The document a second time, in the plainest form and with no thought for speed or memory, written apart from
 * OneWord so that the two can be held against each other.
 */
final class PlainPeople {
    private record Mouth(int x, int y, int thousandths) {}

    private record Saying(int who, int breath) {}

    private record Hearing(int breath, int who, int gap) {}

    private record Row(int cost, List<Integer> who, List<Integer> gaps) {}

    private final List<Mouth> mouths = new ArrayList<>();
    private final List<List<Integer>> sentences = new ArrayList<>();
    private final List<Integer> tape = new ArrayList<>();
    private List<Saying> sayings = new ArrayList<>();
    private List<Saying> keptSayings;
    private int keptX;
    private int x = 1;
    private int range = 200;
    private int speed = 100;
    private List<PlainTongue.Clause> tongue = new ArrayList<>();
    private boolean remembering;
    private Map<String, Row> known;

    /** For a test that asks the same SOONEST many times over and changes nothing between. */
    void remember(boolean yes) {
        remembering = yes;
        known = null;
    }

    int mouth(int atX, int atY, int thousandths) {
        if (Math.abs((long) atX) > 50 || Math.abs((long) atY) > 50 || thousandths < 0 || thousandths > 1000) return -1;
        if (mouths.size() == 8) return -1;
        mouths.add(new Mouth(atX, atY, thousandths));
        sentences.add(List.of());
        return mouths.size() - 1;
    }

    boolean air(int r, int s) {
        if (r < 0 || r > 200 || s < 1 || s > 100) return false;
        range = r;
        speed = s;
        return true;
    }

    int feed(int... numbers) {
        if (tape.size() + 20 > 220) return -1;
        for (int n : numbers) for (int shift = 24; shift >= 0; shift -= 8) tape.add(n >> shift & 0xff);
        return tape.size();
    }

    private List<Integer> take(int n) {
        List<Integer> taken = new ArrayList<>(tape.subList(0, n));
        tape.clear();
        return taken;
    }

    int tongue(int n) {
        if (n < 1 || n > 200 || n > tape.size()) return -1;
        StringBuilder text = new StringBuilder();
        for (int b : take(n)) text.append((char) b);
        try {
            tongue = PlainTongue.parse(text.toString());
            return tongue.size();
        } catch (PlainTongue.Fault f) {
            return -1000 * f.number - f.place;
        }
    }

    int sentence(int m, int n) {
        if (m < 0 || m >= mouths.size() || n < 0 || n > 4 || n > tape.size()) return -1;
        List<Integer> words = take(n);
        for (int w : words) if (w < 1 || w > 31) return -2;
        sentences.set(m, words);
        return n;
    }

    int say(int m, int breath) {
        if (m < 0 || m >= mouths.size() || breath < 0 || breath > 9999 || sayings.size() == 150) return -1;
        if (!sayings.isEmpty() && breath < sayings.get(sayings.size() - 1).breath) return -1;
        sayings.add(new Saying(m, breath));
        return sayings.size();
    }

    private int wayOf(int a, int b) {
        Mouth p = mouths.get(a);
        Mouth q = mouths.get(b);
        return Math.abs(p.x - q.x) + Math.abs(p.y - q.y);
    }

    private List<Hearing> hearings(int ear) {
        TreeMap<Integer, Integer> heard = new TreeMap<>();
        for (Saying s : sayings) {
            int way = wayOf(ear, s.who);
            if (way > range) continue;
            heard.merge(s.breath + way / speed, s.who, (p, q) ->
                wayOf(ear, p) * 10 + p <= wayOf(ear, q) * 10 + q ? p : q);
        }
        List<Hearing> all = new ArrayList<>();
        int before = -1000;
        for (Map.Entry<Integer, Integer> e : heard.entrySet()) {
            all.add(new Hearing(e.getKey(), e.getValue(), Math.min(63, e.getKey() - before)));
            before = e.getKey();
        }
        return all;
    }

    private boolean isMouth(int m) {
        return m >= 0 && m < mouths.size();
    }

    int heard(int ear) {
        return isMouth(ear) ? hearings(ear).size() : -1;
    }

    private int means(int ear, int gap, int who, int last, int before) {
        return PlainTongue.value(tongue, 'm', 31,
            Map.of('g', gap, 'w', who, 'l', last, 'p', before, 's', who == last ? 1 : 0, 'd', wayOf(ear, who), 'e', ear,
                'k', 0, 'a', 0, 'f', 0));
    }

    private int meansToCrowd(int gap, int who, int last, int before) {
        return PlainTongue.value(tongue, 'm', 31,
            Map.of('g', gap, 'w', who, 'l', last, 'p', before, 's', who == last ? 1 : 0, 'd', 0, 'e', who,
                'k', 0, 'a', 0, 'f', 0));
    }

    private int wants(int gap, int who, int last, int before, int left, int next) {
        int fits = meansToCrowd(gap, who, last, before) == next ? 1 : 0;
        return PlainTongue.value(tongue, 'r', 1000,
            Map.of('g', gap, 'w', who, 'l', last, 'p', before, 's', who == last ? 1 : 0, 'd', 0, 'e', who,
                'k', left, 'a', next, 'f', fits));
    }

    private List<Integer> meanings(int ear) {
        List<Integer> all = new ArrayList<>();
        int last = 8;
        int before = 63;
        for (Hearing h : hearings(ear)) {
            all.add(means(ear, h.gap, h.who, last, before));
            last = h.who;
            before = h.gap;
        }
        return all;
    }

    int hearing(int ear, int i, int what) {
        if (!isMouth(ear)) return -1;
        List<Hearing> all = hearings(ear);
        if (i < 0 || i >= all.size()) return -1;
        return switch (what) {
            case 0 -> all.get(i).breath;
            case 1 -> all.get(i).who;
            case 2 -> all.get(i).gap;
            case 3 -> meanings(ear).get(i);
            default -> -1;
        };
    }

    int way(int a, int b) {
        return isMouth(a) && isMouth(b) ? wayOf(a, b) : -1;
    }

    int meaning(int ear, int gap, int who, int last, int before) {
        if (!isMouth(ear) || !isMouth(who) || gap < 1 || gap > 63 || last < 0 || last > 8) return -1;
        return before < 0 || before > 63 ? -1 : means(ear, gap, who, last, before);
    }

    private boolean fits(int ear, List<Integer> gaps, List<Integer> who, List<Integer> told) {
        List<Hearing> all = hearings(ear);
        int last = all.isEmpty() ? 8 : all.get(all.size() - 1).who;
        int before = all.isEmpty() ? 63 : all.get(all.size() - 1).gap;
        for (int i = 0; i < gaps.size(); i++) {
            if (told.get(i) != 32 && told.get(i) != means(ear, gaps.get(i), who.get(i), last, before)) return false;
            last = who.get(i);
            before = gaps.get(i);
        }
        return true;
    }

    private static boolean allWithin(List<Integer> row, int low, int high) {
        return row.stream().allMatch(v -> v >= low && v <= high);
    }

    long read(int ear, int n, int what) {
        if (!isMouth(ear) || n < 1 || n > 12 || what < -1 || what >= n || tape.size() < 2 * n) return -1;
        List<Integer> bytes = take(2 * n);
        List<Integer> gaps = new ArrayList<>();
        List<Integer> told = new ArrayList<>();
        for (int i = 0; i < n; i++) {
            gaps.add(bytes.get(2 * i));
            told.add(bytes.get(2 * i + 1));
        }
        if (!allWithin(gaps, 1, 63) || !allWithin(told, 0, 32)) return -2;
        long[] found = new long[2];
        rows(ear, gaps, told, new ArrayList<>(), what, found);
        return what == -1 ? found[0] : found[1];
    }

    private void rows(int ear, List<Integer> gaps, List<Integer> told, List<Integer> who, int what, long[] found) {
        if (!fits(ear, gaps.subList(0, who.size()), who, told)) return;
        if (who.size() == gaps.size()) {
            found[0]++;
            if (what >= 0) found[1] |= 1L << who.get(what);
            return;
        }
        for (int m = 0; m < mouths.size(); m++) {
            if (wayOf(ear, m) <= range) {
                who.add(m);
                rows(ear, gaps, told, who, what, found);
                who.remove(who.size() - 1);
            }
        }
    }

    int missed(int ear, int m, int n, int what) {
        if (!isMouth(ear) || !isMouth(m) || wayOf(ear, m) > range) return -1;
        if (n < 1 || n > 10 || what < -1 || what > 2 || tape.size() < 2 * n + 1) return -1;
        List<Integer> bytes = take(2 * n + 1);
        List<Integer> gaps = bytes.subList(0, n);
        List<Integer> told = bytes.subList(n, 2 * n + 1);
        if (!allWithin(gaps, 1, 63) || !allWithin(told, 0, 32)) return -2;
        List<int[]> found = new ArrayList<>();
        for (int i = 0; i < n; i++) {
            for (int part = 1; part < gaps.get(i); part++) {
                for (int q = 0; q < mouths.size(); q++) {
                    if (wayOf(ear, q) > range) continue;
                    List<Integer> all = new ArrayList<>(gaps);
                    all.set(i, gaps.get(i) - part);
                    all.add(i, part);
                    List<Integer> who = new ArrayList<>(java.util.Collections.nCopies(n + 1, m));
                    who.set(i, q);
                    if (fits(ear, all, who, told)) found.add(new int[] {i, part, q});
                }
            }
        }
        if (what == -1) return found.size();
        return found.isEmpty() ? -3 : found.get(0)[what];
    }

    private List<Integer> chosen(int bits) {
        if (bits <= 0 || bits >= 1 << mouths.size()) return null;
        List<Integer> who = new ArrayList<>();
        for (int m = 0; m < mouths.size(); m++) if ((bits >> m & 1) != 0) who.add(m);
        return who;
    }

    int soonest(int bits, int what) {
        List<Integer> who = chosen(bits);
        if (who == null || who.size() > 4) return -3;
        int total = who.stream().mapToInt(m -> sentences.get(m).size()).sum();
        boolean speaker = what >= 100 && what < 100 + total;
        boolean gap = what >= 200 && what < 200 + total;
        if (what != -1 && !speaker && !gap) return -3;
        if (known == null || !remembering) known = new HashMap<>();
        Row best = soonestFrom(who, new int[8], 8, 63, known);
        if (best == null) return -2;
        if (what == -1) return best.cost;
        return speaker ? best.who.get(what - 100) : best.gaps.get(what - 200);
    }

    private Row soonestFrom(List<Integer> who, int[] out, int last, int before, Map<String, Row> known) {
        String key = Arrays.toString(out) + last + "/" + before;
        if (known.containsKey(key)) return known.get(key);
        Row best = null;
        boolean over = true;
        for (int m : who) {
            if (out[m] == sentences.get(m).size()) continue;
            over = false;
            int low = last == 8 ? 63 : 1;
            int high = last == 8 ? 63 : 20;
            for (int g = low; g <= high; g++) {
                if (meansToCrowd(g, m, last, before) != sentences.get(m).get(out[m])) continue;
                out[m]++;
                Row rest = soonestFrom(who, out, m, g, known);
                out[m]--;
                if (rest == null) continue;
                Row row = new Row(rest.cost + (last == 8 ? 0 : g), ahead(m, rest.who), ahead(g, rest.gaps));
                if (best == null || compare(row, best) < 0) best = row;
            }
        }
        if (over) best = new Row(0, List.of(), List.of());
        known.put(key, best);
        return best;
    }

    private static List<Integer> ahead(int first, List<Integer> rest) {
        List<Integer> all = new ArrayList<>(List.of(first));
        all.addAll(rest);
        return all;
    }

    private static int compare(Row a, Row b) {
        if (a.cost != b.cost) return Integer.compare(a.cost, b.cost);
        for (int i = 0; i < a.who.size(); i++) {
            if (!a.who.get(i).equals(b.who.get(i))) return a.who.get(i).compareTo(b.who.get(i));
        }
        for (int i = 0; i < a.gaps.size(); i++) {
            if (!a.gaps.get(i).equals(b.gaps.get(i))) return a.gaps.get(i).compareTo(b.gaps.get(i));
        }
        return 0;
    }

    int byRules(int bits, int breaths, int what) {
        List<Integer> who = chosen(bits);
        if (who == null || breaths < 1 || breaths > 400 || what < 0 || what > 2) return -1;
        int[] out = new int[8];
        int left = who.stream().mapToInt(m -> sentences.get(m).size()).sum();
        int meant = 0;
        int spoken = 0;
        int lastAt = -1;
        int meantAt = 0;
        int last = 8;
        int before = 63;
        for (int t = 0; t < breaths; t++) {
            if (left == 0) break;
            int gap = lastAt < 0 ? 63 : Math.min(63, t - lastAt);
            int speaker = -1;
            int most = 0;
            for (int m : who) {
                int words = sentences.get(m).size() - out[m];
                if (words == 0) continue;
                int r = wants(gap, m, last, before, words, sentences.get(m).get(out[m]));
                if (r > most) {
                    most = r;
                    speaker = m;
                }
            }
            if (speaker < 0) continue;
            spoken++;
            if (meansToCrowd(gap, speaker, last, before) == sentences.get(speaker).get(out[speaker])) {
                out[speaker]++;
                left--;
                meant++;
                meantAt = t;
            }
            last = speaker;
            before = gap;
            lastAt = t;
        }
        return what == 1 ? meant : what == 2 ? spoken : left > 0 ? -2 : meantAt;
    }

    int table(int n, int k, int what) {
        if (n < 1 || n > 12 || k < 1 || k > 5 || what == 0 || what < -1 || what > n || tape.size() < n) return -1;
        List<Integer> uses = take(n);
        List<Integer> order = new ArrayList<>();
        for (int i = 0; i < n; i++) order.add(i);
        order.sort((a, b) -> uses.get(b) - uses.get(a));
        int sum = 0;
        for (int i = 0; i < n; i++) {
            sum += uses.get(order.get(i)) * (1 + i * k);
            if (what == order.get(i) + 1) return 1 + i * k;
        }
        return sum;
    }

    int alike(int n, int what) {
        if (n < 1 || n > 12 || what < 0 || what > 4 || tape.size() < n) return -1;
        List<Integer> gaps = take(n);
        if (!allWithin(gaps, 1, 63) || gaps.stream().distinct().count() != n) return -2;
        List<int[]> found = new ArrayList<>();
        for (int a = 0; a < n; a++) for (int b = 0; b < n; b++) for (int c = 0; c < n; c++) for (int d = 0; d < n; d++) {
            if (gaps.get(c) == gaps.get(a) + 1 && gaps.get(d) == gaps.get(b) - 1) {
                found.add(new int[] {a + 1, b + 1, c + 1, d + 1});
            }
        }
        if (what == 4) return found.size();
        return found.isEmpty() ? -3 : found.get(0)[what];
    }

    boolean seed(int number) {
        if (number < 0 || number > 65535) return false;
        x = number;
        return true;
    }

    int draw(int n) {
        if (n < 1 || n > 200) return -1;
        int from = sayings.isEmpty() ? 0 : sayings.get(sayings.size() - 1).breath + 1;
        int drawn = 0;
        for (int t = from; t < from + n; t++) {
            x = (int) ((25173L * x + 13849) % 65536);
            int m = x % 8;
            if (!isMouth(m) || x / 8 % 1000 >= mouths.get(m).thousandths) continue;
            if (sayings.size() < 150 && t <= 9999) {
                sayings.add(new Saying(m, t));
                drawn++;
            }
        }
        return drawn;
    }

    int keep() {
        keptSayings = new ArrayList<>(sayings);
        keptX = x;
        return sayings.size();
    }

    boolean undo() {
        if (keptSayings == null) return false;
        sayings = new ArrayList<>(keptSayings);
        x = keptX;
        return true;
    }

    int quiet() {
        int before = sayings.size();
        sayings.clear();
        return before;
    }

    int said(int i, int what) {
        if (i < 0 || i >= sayings.size() || what < 0 || what > 2) return -1;
        Saying s = sayings.get(i);
        if (what < 2) return what == 0 ? s.who : s.breath;
        int ears = 0;
        for (int ear = 0; ear < mouths.size(); ear++) {
            int at = s.breath + wayOf(ear, s.who) / speed;
            for (Hearing h : hearings(ear)) if (h.breath == at && h.who == s.who) ears++;
        }
        return ears;
    }

    int check(int ear, int n) {
        if (!isMouth(ear) || n < 0 || n > 55 || tape.size() < 4 * n) return -2;
        List<Integer> bytes = take(4 * n);
        List<Integer> due = meanings(ear);
        for (int i = 0; i < n; i++) {
            int number = 0;
            for (int j = 0; j < 4; j++) number = number * 256 + bytes.get(4 * i + j);
            if (i >= due.size() || due.get(i) != number) return i;
        }
        return due.size() > n ? n : -1;
    }

    int count(int what) {
        if (what >= 10 && what < 10 + mouths.size()) return sentences.get(what - 10).size();
        if (what >= 20 && what < 20 + 4 * mouths.size()) {
            List<Integer> words = sentences.get((what - 20) / 4);
            int i = (what - 20) % 4;
            return i < words.size() ? words.get(i) : -1;
        }
        return switch (what) {
            case 0 -> mouths.size();
            case 1 -> sayings.size();
            case 2 -> tongue.size();
            case 3 -> tape.size();
            case 4 -> x;
            case 5 -> range;
            case 6 -> speed;
            default -> -1;
        };
    }
}
