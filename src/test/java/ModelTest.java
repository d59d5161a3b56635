import java.lang.reflect.InvocationTargetException;
import java.lang.reflect.Method;
import java.util.ArrayList;
import java.util.HashMap;
import java.util.List;
import java.util.Map;
import java.util.TreeMap;
import java.util.TreeSet;

/**
 * Runs of 512 calls, made up by a counter of their own, on a Routetable and on a Model at once: both have to answer
 * the same. The Model says the document's words as plainly as can be, with maps, and keeps nothing ready.
 */
public final class ModelTest {
  private static final int RUNS = 400;
  private static final int CALLS = 512;

  private static final String[] CHANGES = {"offer", "offer", "offer", "offer", "offer", "offer", "offer", "withdraw",
      "withdraw", "withdraw", "leave", "minute", "link", "link", "send", "send", "shrink", "clear", "knock"};
  private static final String[] QUESTIONS = {"way", "length", "best", "without", "dotted", "offers", "ofOffer",
      "chosen", "hits", "penalty", "table", "lengthFrom", "text", "ranges", "range", "rangesText", "window", "edge",
      "share", "leastSize", "least", "alike", "parting", "differ", "linkOf", "trace", "fate", "reach", "firstOf",
      "recent", "books", "isSound", "digest"};

  /** What the arguments of each method stand for, in their order. */
  private static final Map<String, String> KINDS = Map.ofEntries(
      Map.entry("offer", "router address length owner wayOrNone cost"),
      Map.entry("withdraw", "router address length owner"),
      Map.entry("leave", "router owner"),
      Map.entry("minute", ""),
      Map.entry("link", "router way to"),
      Map.entry("send", "router address life"),
      Map.entry("shrink", "router"),
      Map.entry("clear", "router"),
      Map.entry("knock", ""),
      Map.entry("way", "router address"),
      Map.entry("length", "router address"),
      Map.entry("best", "router address"),
      Map.entry("without", "router address length address"),
      Map.entry("dotted", "address"),
      Map.entry("offers", "router address length"),
      Map.entry("ofOffer", "router address length owner upTo2"),
      Map.entry("chosen", "router address length"),
      Map.entry("hits", "router address length"),
      Map.entry("penalty", "router address length owner"),
      Map.entry("table", "router upTo5"),
      Map.entry("lengthFrom", "router lengthOrNone flag"),
      Map.entry("text", "router"),
      Map.entry("ranges", "router"),
      Map.entry("range", "router upTo9 upTo3"),
      Map.entry("rangesText", "router"),
      Map.entry("window", "router address address"),
      Map.entry("edge", "router address address flag"),
      Map.entry("share", "router wayOrNone"),
      Map.entry("leastSize", "router"),
      Map.entry("least", "router"),
      Map.entry("alike", "router router"),
      Map.entry("parting", "router router"),
      Map.entry("differ", "router router"),
      Map.entry("linkOf", "router way"),
      Map.entry("trace", "router address"),
      Map.entry("fate", "router address"),
      Map.entry("reach", "router upTo2"),
      Map.entry("firstOf", "router upTo2"),
      Map.entry("recent", "upTo7"),
      Map.entry("books", "upTo2"),
      Map.entry("isSound", ""),
      Map.entry("digest", ""));

  private static long seed;
  private static int[] someAddresses;
  private static int[] someLengths;
  private static int wrongsInHundred;
  private static int fewRouters;

  public static void main(String[] args) throws Exception {
    Map<String, Method> mine = methods(Routetable.class);
    Map<String, Method> plain = methods(Model.class);
    long calls = 0;
    for (int run = 1; run <= RUNS; run++) {
      chooseRun(run);
      Routetable x = new Routetable();
      Model model = new Model();
      List<String> past = new ArrayList<>();
      for (int call = 0; call < CALLS; call++) {
        String name = chooseCall(run, call);
        Object[] told = tell(name);
        String got = answer(mine.get(name), x, told);
        String want = answer(plain.get(name), model, told);
        past.add(name + List.of(told) + " " + got);
        calls++;
        if (!got.equals(want)) {
          past.forEach(System.out::println);
          System.out.println("run " + run + ", the last row: due is " + want);
          System.exit(1);
        }
      }
    }
    System.out.println(calls + " calls answered as by the model");
  }

  private static Map<String, Method> methods(Class<?> of) {
    Map<String, Method> found = new HashMap<>();
    for (Method method : of.getDeclaredMethods()) {
      if (KINDS.containsKey(method.getName())) {
        found.put(method.getName(), method);
      }
    }
    return found;
  }

  private static String answer(Method method, Object on, Object[] told) throws Exception {
    try {
      return String.valueOf(method.invoke(on, told));
    } catch (InvocationTargetException e) {
      return "throws." + e.getCause().getClass().getSimpleName();
    }
  }

  // ---- what is called

  private static int below(int bound) {
    seed = seed * 6364136223846793005L + 1442695040888963407L;
    return (int) ((seed >>> 33) % bound);
  }

  /** Each run has its own kind of addresses and lengths: close together, at the ends, or anywhere. */
  private static void chooseRun(int run) {
    seed = run * 7919L;
    someAddresses = new int[4 + below(12)];
    int style = below(5);
    int base = style == 0 ? 0 : style == 1 ? -16 : style == 2 ? Integer.MIN_VALUE - 8 : (below(1 << 16) << 16);
    for (int i = 0; i < someAddresses.length; i++) {
      someAddresses[i] = style == 4 ? below(1 << 16) << 16 | below(1 << 16)
          : style == 3 ? below(16) << 28 | below(2) << 20 : base + below(16);
    }
    someLengths = new int[2 + below(6)];
    int least = style == 3 ? 0 : style == 4 ? below(28) : 27;
    for (int i = 0; i < someLengths.length; i++) {
      someLengths[i] = Math.min(32, least + below(6));
    }
    wrongsInHundred = below(3);
    fewRouters = 1 + below(4);
  }

  private static String chooseCall(int run, int call) {
    if (call % 64 == 63) {
      return "digest";
    }
    boolean isChange = below(100) < (run % 3 == 0 ? 90 : 60);
    if (!isChange) {
      return QUESTIONS[below(QUESTIONS.length)];
    }
    String name = CHANGES[below(CHANGES.length)];
    boolean isRare = name.equals("clear") || name.equals("shrink") || name.equals("minute");
    return isRare && below(4) > 0 ? "offer" : name;
  }

  private static Object[] tell(String name) {
    String kinds = KINDS.get(name);
    if (kinds.isEmpty()) {
      return new Object[0];
    }
    String[] each = kinds.split(" ");
    Object[] told = new Object[each.length];
    for (int i = 0; i < each.length; i++) {
      told[i] = tellOne(each[i]);
    }
    return told;
  }

  private static Object tellOne(String kind) {
    if (!kind.equals("flag") && !kind.equals("address") && below(100) < wrongsInHundred) {
      int[] wrongs = {-1, -2, -9, 3, 4, 5, 6, 8, 10, 33, 100, Integer.MAX_VALUE, Integer.MIN_VALUE};
      return wrongs[below(wrongs.length)];
    }
    switch (kind) {
      case "router":
        return below(fewRouters);
      case "address":
        int address = someAddresses[below(someAddresses.length)];
        return below(20) == 0 ? address + below(3) - 1 : below(40) == 0 ? -below(2) : address;
      case "length":
        return below(15) == 0 ? below(33) : someLengths[below(someLengths.length)];
      case "lengthOrNone":
        return below(34) - 1;
      case "owner":
        return below(4);
      case "way":
        return below(6);
      case "wayOrNone":
        return below(3) == 0 ? below(7) - 1 : below(3) - 1;
      case "cost":
        return below(4);
      case "to":
        return below(6) - 1;
      case "life":
        return 1 + below(9);
      case "flag":
        return below(2) == 1;
      default:
        return below(Integer.parseInt(kind.substring(4)) + 1);
    }
  }

  /** A prefix, ordered as the document orders them. */
  record Prefix(long first, int length) implements Comparable<Prefix> {
    static Prefix of(int address, int length) {
      long number = Integer.toUnsignedLong(address);
      return new Prefix(number - number % (1L << 32 - length), length);
    }

    long last() {
      return first + (1L << 32 - length) - 1;
    }

    boolean has(long number) {
      return number >= first && number <= last();
    }

    @Override
    public int compareTo(Prefix other) {
      return first != other.first ? Long.compare(first, other.first) : Integer.compare(length, other.length);
    }

    String text() {
      return Model.bytes(first) + "/" + length;
    }
  }

  record Offer(int way, int cost) {
  }

  record Range(long begin, long end, int way) {
  }

  /** The document's words, with maps. */
  static final class Model {
    private final List<TreeMap<Prefix, TreeMap<Integer, Offer>>> tables = new ArrayList<>();
    private final List<Map<Prefix, Integer>> hits = new ArrayList<>();
    private final List<Map<Prefix, Map<Integer, Integer>>> penalties = new ArrayList<>();
    private final int[][] links = new int[4][6];
    private final List<Prefix> recent = new ArrayList<>();
    private int lost;
    private int knocks;

    Model() {
      for (int router = 0; router < 4; router++) {
        tables.add(new TreeMap<>());
        hits.add(new HashMap<>());
        penalties.add(new HashMap<>());
        java.util.Arrays.fill(links[router], -1);
      }
    }

    private static void index(int... indices) {
      for (int index : indices) {
        if (index < 0 || index > 3) {
          throw new IndexOutOfBoundsException();
        }
      }
    }

    private static void within(int number, int least, int most) {
      if (number < least || number > most) {
        throw new IllegalArgumentException();
      }
    }

    static String bytes(long number) {
      return number / 16777216 + "." + number / 65536 % 256 + "." + number / 256 % 256 + "." + number % 256;
    }

    // ---- changes

    int offer(int router, int address, int length, int owner, int way, int cost) {
      index(router, owner);
      within(length, 0, 32);
      within(way, -1, 5);
      within(cost, 0, 99);
      Prefix prefix = Prefix.of(address, length);
      if (!tables.get(router).containsKey(prefix)) {
        if (tables.get(router).size() == 12) {
          throw new IllegalStateException();
        }
        tables.get(router).put(prefix, new TreeMap<>());
        hits.get(router).put(prefix, 0);
      }
      tables.get(router).get(prefix).put(owner, new Offer(way, cost));
      return tables.get(router).get(prefix).size();
    }

    boolean withdraw(int router, int address, int length, int owner) {
      index(router, owner);
      within(length, 0, 32);
      return takeBack(router, Prefix.of(address, length), owner);
    }

    private boolean takeBack(int router, Prefix prefix, int owner) {
      TreeMap<Integer, Offer> offers = tables.get(router).get(prefix);
      if (offers == null || offers.remove(owner) == null) {
        return false;
      }
      int penalty = penaltyOf(router, prefix, owner) + 1000;
      penalties.get(router).computeIfAbsent(prefix, p -> new HashMap<>()).put(owner, penalty > 4000 ? 4000 : penalty);
      if (offers.isEmpty()) {
        tables.get(router).remove(prefix);
        hits.get(router).remove(prefix);
      }
      return true;
    }

    int leave(int router, int owner) {
      index(router, owner);
      int left = 0;
      for (Prefix prefix : new ArrayList<>(tables.get(router).keySet())) {
        if (takeBack(router, prefix, owner)) {
          left++;
        }
      }
      return left;
    }

    int minute() {
      int above = 0;
      for (int router = 0; router < 4; router++) {
        for (Map<Integer, Integer> each : penalties.get(router).values()) {
          each.replaceAll((owner, penalty) -> penalty / 2 < 100 ? 0 : penalty / 2);
        }
        above += countPenalties(router);
      }
      return above;
    }

    private int countPenalties(int router) {
      int above = 0;
      for (Map<Integer, Integer> each : penalties.get(router).values()) {
        for (int penalty : each.values()) {
          above += penalty > 0 ? 1 : 0;
        }
      }
      return above;
    }

    private int penaltyOf(int router, Prefix prefix, int owner) {
      return penalties.get(router).getOrDefault(prefix, Map.of()).getOrDefault(owner, 0);
    }

    int link(int router, int way, int to) {
      index(router);
      within(way, 0, 5);
      within(to, -1, 4);
      int before = links[router][way];
      links[router][way] = to;
      return before;
    }

    int send(int router, int address, int life) {
      index(router);
      within(life, 1, 9);
      long number = Integer.toUnsignedLong(address);
      int here = router;
      for (int hop = 1; hop <= life; hop++) {
        Prefix best = bestOf(live(here), number);
        if (hop == 1 && best == null) {
          lost++;
        } else if (hop == 1) {
          recent.add(best);
        }
        if (best == null) {
          return -1;
        }
        hits.get(here).merge(best, 1, Integer::sum);
        int way = live(here).get(best);
        if (way == -1 || links[here][way] == -1) {
          return -1;
        }
        if (links[here][way] == 4) {
          return hop;
        }
        here = links[here][way];
      }
      return -9;
    }

    int shrink(int router) {
      index(router);
      TreeMap<Prefix, Integer> least = leastOf(live(router));
      clear(router);
      for (Prefix prefix : least.keySet()) {
        offer(router, (int) prefix.first(), prefix.length(), 0, least.get(prefix), 0);
      }
      return least.size();
    }

    int clear(int router) {
      index(router);
      int gone = tables.get(router).size();
      tables.get(router).clear();
      hits.get(router).clear();
      penalties.get(router).clear();
      return gone;
    }

    int knock() {
      return ++knocks;
    }

    // ---- ways

    private int chosenOf(int router, Prefix prefix) {
      int chosen = -1;
      int least = 100;
      for (Map.Entry<Integer, Offer> each : tables.get(router).getOrDefault(prefix, new TreeMap<>()).entrySet()) {
        if (penaltyOf(router, prefix, each.getKey()) < 1500 && each.getValue().cost() < least) {
          least = each.getValue().cost();
          chosen = each.getKey();
        }
      }
      return chosen;
    }

    private TreeMap<Prefix, Integer> live(int router) {
      TreeMap<Prefix, Integer> live = new TreeMap<>();
      for (Prefix prefix : tables.get(router).keySet()) {
        int chosen = chosenOf(router, prefix);
        if (chosen != -1) {
          live.put(prefix, tables.get(router).get(prefix).get(chosen).way());
        }
      }
      return live;
    }

    private static Prefix bestOf(TreeMap<Prefix, Integer> table, long number) {
      for (int length = 32; length >= 0; length--) {
        Prefix prefix = Prefix.of((int) number, length);
        if (table.containsKey(prefix)) {
          return prefix;
        }
      }
      return null;
    }

    private static int wayOf(TreeMap<Prefix, Integer> table, long number) {
      Prefix best = bestOf(table, number);
      return best == null ? -1 : table.get(best);
    }

    int way(int router, int address) {
      index(router);
      return wayOf(live(router), Integer.toUnsignedLong(address));
    }

    int length(int router, int address) {
      index(router);
      Prefix best = bestOf(live(router), Integer.toUnsignedLong(address));
      return best == null ? -1 : best.length();
    }

    String best(int router, int address) {
      index(router);
      Prefix best = bestOf(live(router), Integer.toUnsignedLong(address));
      return best == null ? "none" : best.text();
    }

    int without(int router, int address, int length, int asked) {
      index(router);
      within(length, 0, 32);
      TreeMap<Prefix, Integer> live = live(router);
      live.remove(Prefix.of(address, length));
      return wayOf(live, Integer.toUnsignedLong(asked));
    }

    String dotted(int address) {
      return bytes(Integer.toUnsignedLong(address));
    }

    // ---- tables

    int offers(int router, int address, int length) {
      index(router);
      within(length, 0, 32);
      TreeMap<Integer, Offer> offers = tables.get(router).get(Prefix.of(address, length));
      return offers == null ? 0 : offers.size();
    }

    int ofOffer(int router, int address, int length, int owner, int what) {
      index(router, owner);
      within(length, 0, 32);
      within(what, 0, 2);
      Prefix prefix = Prefix.of(address, length);
      TreeMap<Integer, Offer> offers = tables.get(router).get(prefix);
      if (offers == null || !offers.containsKey(owner)) {
        return -9;
      }
      Offer offer = offers.get(owner);
      int damped = penaltyOf(router, prefix, owner) >= 1500 ? 1 : 0;
      return what == 0 ? offer.way() : what == 1 ? offer.cost() : damped;
    }

    int chosen(int router, int address, int length) {
      index(router);
      within(length, 0, 32);
      return chosenOf(router, Prefix.of(address, length));
    }

    int hits(int router, int address, int length) {
      index(router);
      within(length, 0, 32);
      return hits.get(router).getOrDefault(Prefix.of(address, length), -9);
    }

    int penalty(int router, int address, int length, int owner) {
      index(router, owner);
      within(length, 0, 32);
      return penaltyOf(router, Prefix.of(address, length), owner);
    }

    int table(int router, int what) {
      index(router);
      within(what, 0, 5);
      switch (what) {
        case 0:
          return tables.get(router).size();
        case 1:
          return live(router).size();
        case 2:
          return tables.get(router).values().stream().mapToInt(Map::size).sum();
        case 3:
          return lengths(router).size();
        case 4:
          return hits.get(router).values().stream().mapToInt(each -> each).sum();
        default:
          return countPenalties(router);
      }
    }

    private TreeSet<Integer> lengths(int router) {
      TreeSet<Integer> lengths = new TreeSet<>();
      live(router).keySet().forEach(prefix -> lengths.add(prefix.length()));
      return lengths;
    }

    int lengthFrom(int router, int from, boolean isDown) {
      index(router);
      within(from, Integer.MIN_VALUE, 32);
      if (from < -1 || from == -1 && !isDown) {
        return -9;
      }
      Integer found = isDown ? lengths(router).floor(from) : lengths(router).ceiling(from);
      return found == null ? -1 : found;
    }

    private static String textOf(TreeMap<Prefix, Integer> table) {
      List<String> parts = new ArrayList<>();
      table.forEach((prefix, way) -> parts.add(prefix.text() + ">" + way));
      return String.join(" ", parts);
    }

    String text(int router) {
      index(router);
      return textOf(live(router));
    }

    // ---- ranges

    private static TreeSet<Long> cuts(TreeMap<Prefix, Integer> table) {
      TreeSet<Long> cuts = new TreeSet<>();
      cuts.add(0L);
      for (Prefix prefix : table.keySet()) {
        cuts.add(prefix.first());
        cuts.add(prefix.last() + 1);
      }
      cuts.remove(1L << 32);
      return cuts;
    }

    private static List<Range> rangesOf(TreeMap<Prefix, Integer> table) {
      List<Range> ranges = new ArrayList<>();
      TreeSet<Long> cuts = cuts(table);
      for (long cut : cuts) {
        Long next = cuts.higher(cut);
        long end = next == null ? (1L << 32) - 1 : next - 1;
        int way = wayOf(table, cut);
        Range before = ranges.isEmpty() ? null : ranges.get(ranges.size() - 1);
        if (before != null && before.way() == way) {
          ranges.set(ranges.size() - 1, new Range(before.begin(), end, way));
        } else {
          ranges.add(new Range(cut, end, way));
        }
      }
      return ranges;
    }

    int ranges(int router) {
      index(router);
      return rangesOf(live(router)).size();
    }

    long range(int router, int number, int what) {
      index(router);
      List<Range> ranges = rangesOf(live(router));
      if (number < 0 || number >= ranges.size()) {
        throw new IndexOutOfBoundsException();
      }
      within(what, 0, 3);
      Range range = ranges.get(number);
      long size = range.end() - range.begin() + 1;
      return what == 0 ? range.begin() : what == 1 ? range.end() : what == 2 ? range.way() : size;
    }

    String rangesText(int router) {
      index(router);
      List<String> parts = new ArrayList<>();
      rangesOf(live(router)).forEach(range -> parts.add(bytes(range.begin()) + ">" + range.way()));
      return String.join(" ", parts);
    }

    private TreeSet<Long> beginsIn(int router, int from, int to) {
      TreeSet<Long> begins = new TreeSet<>();
      rangesOf(live(router)).forEach(range -> begins.add(range.begin()));
      return new TreeSet<>(begins.subSet(Integer.toUnsignedLong(from), true, Integer.toUnsignedLong(to), true));
    }

    int window(int router, int from, int to) {
      index(router);
      return Integer.compareUnsigned(from, to) > 0 ? -9 : beginsIn(router, from, to).size();
    }

    long edge(int router, int from, int to, boolean isLast) {
      index(router);
      within(Integer.compareUnsigned(from, to), -1, 0);
      TreeSet<Long> begins = beginsIn(router, from, to);
      return begins.isEmpty() ? -1 : isLast ? begins.last() : begins.first();
    }

    long share(int router, int way) {
      index(router);
      within(way, -1, 5);
      long addresses = 0;
      for (Range range : rangesOf(live(router))) {
        addresses += range.way() == way ? range.end() - range.begin() + 1 : 0;
      }
      return addresses;
    }

    // ---- least tables, and two tables

    private static TreeSet<Integer> waysIn(TreeMap<Prefix, Integer> table, Prefix prefix) {
      TreeSet<Integer> ways = new TreeSet<>();
      ways.add(wayOf(table, prefix.first()));
      for (long cut : cuts(table).subSet(prefix.first(), prefix.last() + 1)) {
        ways.add(wayOf(table, cut));
      }
      return ways;
    }

    private static Prefix half(Prefix prefix, int upper) {
      long size = prefix.last() - prefix.first() + 1;
      return new Prefix(prefix.first() + upper * size / 2, prefix.length() + 1);
    }

    private static TreeSet<Integer> setOf(TreeMap<Prefix, Integer> table, Prefix prefix,
        Map<Prefix, TreeSet<Integer>> sets) {
      TreeSet<Integer> set = waysIn(table, prefix);
      if (set.size() > 1) {
        TreeSet<Integer> lower = setOf(table, half(prefix, 0), sets);
        TreeSet<Integer> upper = setOf(table, half(prefix, 1), sets);
        set = new TreeSet<>(lower);
        set.retainAll(upper);
        if (set.isEmpty()) {
          set.addAll(lower);
          set.addAll(upper);
        }
      }
      sets.put(prefix, set);
      return set;
    }

    private static TreeMap<Prefix, Integer> leastOf(TreeMap<Prefix, Integer> table) {
      Map<Prefix, TreeSet<Integer>> sets = new HashMap<>();
      Prefix all = new Prefix(0, 0);
      setOf(table, all, sets);
      TreeMap<Prefix, Integer> least = new TreeMap<>();
      choose(all, -1, sets, least);
      return least;
    }

    private static void choose(Prefix prefix, int inherited, Map<Prefix, TreeSet<Integer>> sets,
        TreeMap<Prefix, Integer> least) {
      int way = inherited;
      if (!sets.get(prefix).contains(inherited)) {
        way = sets.get(prefix).first();
        least.put(prefix, way);
      }
      if (prefix.length() < 32 && sets.containsKey(half(prefix, 0))) {
        choose(half(prefix, 0), way, sets, least);
        choose(half(prefix, 1), way, sets, least);
      }
    }

    int leastSize(int router) {
      index(router);
      return leastOf(live(router)).size();
    }

    String least(int router) {
      index(router);
      return textOf(leastOf(live(router)));
    }

    private TreeSet<Long> allCuts() {
      TreeSet<Long> cuts = new TreeSet<>();
      for (int router = 0; router < 4; router++) {
        cuts.addAll(cuts(live(router)));
      }
      return cuts;
    }

    private static long sizeAt(TreeSet<Long> cuts, long cut) {
      Long next = cuts.higher(cut);
      return (next == null ? 1L << 32 : next) - cut;
    }

    boolean alike(int router, int other) {
      return differ(router, other) == 0;
    }

    long parting(int router, int other) {
      index(router, other);
      for (long cut : allCuts()) {
        if (wayOf(live(router), cut) != wayOf(live(other), cut)) {
          return cut;
        }
      }
      return -1;
    }

    long differ(int router, int other) {
      index(router, other);
      TreeSet<Long> cuts = allCuts();
      TreeMap<Prefix, Integer> one = live(router);
      TreeMap<Prefix, Integer> two = live(other);
      long addresses = 0;
      for (long cut : cuts) {
        addresses += wayOf(one, cut) != wayOf(two, cut) ? sizeAt(cuts, cut) : 0;
      }
      return addresses;
    }

    // ---- the net

    int linkOf(int router, int way) {
      index(router);
      within(way, 0, 5);
      return links[router][way];
    }

    String trace(int router, int address) {
      index(router);
      return traceOf(router, Integer.toUnsignedLong(address));
    }

    private String traceOf(int router, long number) {
      StringBuilder text = new StringBuilder();
      TreeSet<Integer> come = new TreeSet<>();
      int here = router;
      while (come.add(here)) {
        text.append(here).append('>');
        int way = wayOf(live(here), number);
        int next = way == -1 ? -1 : links[here][way];
        if (next == -1 || next == 4) {
          return text.append(next == 4 ? "out" : "dead").toString();
        }
        here = next;
      }
      return text.append(here).toString();
    }

    private static int fateIn(String trace) {
      return trace.endsWith("out") ? 0 : trace.endsWith("dead") ? 1 : 2;
    }

    int fate(int router, int address) {
      return fateIn(trace(router, address));
    }

    long reach(int router, int fate) {
      index(router);
      within(fate, 0, 2);
      TreeSet<Long> cuts = allCuts();
      long addresses = 0;
      for (long cut : cuts) {
        addresses += fateIn(traceOf(router, cut)) == fate ? sizeAt(cuts, cut) : 0;
      }
      return addresses;
    }

    long firstOf(int router, int fate) {
      index(router);
      within(fate, 0, 2);
      for (long cut : allCuts()) {
        if (fateIn(traceOf(router, cut)) == fate) {
          return cut;
        }
      }
      return -1;
    }

    String recent(int place) {
      within(place, 0, 7);
      int from = Math.max(0, recent.size() - 8);
      return from + place < recent.size() ? recent.get(from + place).text() : "none";
    }

    int books(int what) {
      within(what, 0, 2);
      return what == 0 ? Math.min(8, recent.size()) : what == 1 ? lost : knocks;
    }

    /** Each part of it is so in any state, if the program is right. */
    boolean isSound() {
      return true;
    }

    long digest() {
      List<Long> all = new ArrayList<>();
      for (int router = 0; router < 4; router++) {
        digestRouter(router, all);
      }
      for (int router = 0; router < 4; router++) {
        for (int other = router + 1; other < 4; other++) {
          all.add(differ(router, other));
          all.add(parting(router, other));
        }
      }
      for (int place = 0; place <= 7; place++) {
        all.add((long) recent(place).length());
      }
      for (int what = 0; what <= 2; what++) {
        all.add((long) books(what));
      }
      all.add(1L);
      long d = 5301;
      for (long v : all) {
        d = d * 31 + v;
      }
      return d;
    }

    private void digestRouter(int router, List<Long> all) {
      for (int what = 0; what <= 5; what++) {
        all.add((long) table(router, what));
      }
      all.add((long) ranges(router));
      for (Range range : rangesOf(live(router))) {
        all.add(range.begin());
        all.add((long) range.way());
        all.add(range.end() - range.begin() + 1);
      }
      for (int way = -1; way <= 5; way++) {
        all.add(share(router, way));
      }
      all.add((long) leastSize(router));
      all.add((long) text(router).length());
      all.add((long) rangesText(router).length());
      all.add((long) least(router).length());
      for (int way = 0; way <= 5; way++) {
        all.add((long) links[router][way]);
      }
      for (int fate = 0; fate <= 2; fate++) {
        all.add(reach(router, fate));
      }
      for (int fate = 0; fate <= 2; fate++) {
        all.add(firstOf(router, fate));
      }
      all.add((long) lengthFrom(router, 32, true));
      all.add((long) lengthFrom(router, 0, false));
    }
  }
}
