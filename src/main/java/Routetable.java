import java.util.ArrayList;

/** Four routers with tables of prefixes, the ways of addresses by them, and the net between them. */
public final class Routetable {
  private static final int NONE = -1;
  private static final int REFUSED = -9;

  private static final int ROUTERS = 4;
  private static final int OWNERS = 4;
  private static final int WAYS = 6;
  private static final int BITS = 32;
  private static final long ADDRESSES = 4294967296L;
  private static final long LAST_NUMBER = 4294967295L;

  private static final int MOST_PREFIXES = 12;
  // Each prefix has two edges, and each edge parts one row of addresses in two.
  private static final int MOST_RANGES = 25;
  // Only prefixes above one of the table are halved: 12 * 32 of them at most, with two halves each.
  private static final int MOST_NODES = 769;
  // 512 calls can make a router know 524 prefixes; what comes behind these calls is refused here.
  private static final int MOST_KNOWN = 1024;
  private static final int MOST_COST = 99;

  private static final int PENALTY_STEP = 1000;
  private static final int MOST_PENALTY = 4000;
  private static final int LEAST_PENALTY = 100;
  private static final int DAMPING_PENALTY = 1500;

  private static final int NOWHERE = -1;
  private static final int OUT = 4;
  private static final int MOST_LIFE = 9;
  private static final int MOST_RECENT = 8;

  private static final int ARRIVES = 0;
  private static final int DIES = 1;
  private static final int GOES_ROUND = 2;
  private static final int FATES = 3;

  private final Net net = new Net();
  private final Journal journal = new Journal();
  private final LeastMaker maker = new LeastMaker();
  private final Ways leastWays = new Ways();
  private final Ranges leastRanges = new Ranges();
  private final Ways leastOfLeast = new Ways();
  private final StringBuilder signs = new StringBuilder();

  public Routetable() {
  }

  // ---- what is changed

  public int offer(int router, int address, int length, int owner, int way, int cost)
      throws IndexOutOfBoundsException, IllegalArgumentException, IllegalStateException {
    Router place = net.at(router);
    checkOwner(owner);
    checkArgument(isLength(length) && isWayOrNone(way) && cost >= 0 && cost <= MOST_COST);
    long first = firstIn(address, length);
    Entry entry = place.known(first, length);
    if ((entry == null || !entry.isOffered()) && place.isFull()) {
      throw new IllegalStateException("the table is full");
    }
    if (entry == null) {
      entry = place.learn(first, length);
    }
    entry.tell(owner, way, cost);
    place.renew();
    return entry.offerCount();
  }

  public boolean withdraw(int router, int address, int length, int owner)
      throws IndexOutOfBoundsException, IllegalArgumentException {
    Router place = net.at(router);
    checkOwner(owner);
    checkArgument(isLength(length));
    Entry entry = place.known(firstIn(address, length), length);
    if (entry == null || !entry.hasOffer(owner)) {
      return false;
    }
    entry.takeBack(owner);
    place.renew();
    return true;
  }

  public int leave(int router, int owner) throws IndexOutOfBoundsException {
    Router place = net.at(router);
    checkOwner(owner);
    return place.takeAllBack(owner);
  }

  public int minute() {
    int penalties = 0;
    for (int router = 0; router < ROUTERS; router++) {
      penalties += net.at(router).passMinute();
    }
    return penalties;
  }

  public int link(int router, int way, int to) throws IndexOutOfBoundsException, IllegalArgumentException {
    Router place = net.at(router);
    checkArgument(isWay(way) && to >= NOWHERE && to <= OUT);
    int before = place.linkBy(way);
    place.setLink(way, to);
    return before;
  }

  public int send(int router, int address, int life) throws IndexOutOfBoundsException, IllegalArgumentException {
    net.at(router);
    checkArgument(life >= 1 && life <= MOST_LIFE);
    long number = numberOf(address);
    noteFirstHop(net.at(router).live, number);
    int here = router;
    for (int hop = 1; hop <= life; hop++) {
      int next = net.hop(here, number);
      if (next == OUT) {
        return hop;
      }
      if (next == NOWHERE) {
        return NONE;
      }
      here = next;
    }
    return REFUSED;
  }

  public int shrink(int router) throws IndexOutOfBoundsException {
    Router place = net.at(router);
    maker.make(place.ranges, leastWays);
    place.become(leastWays);
    return place.tally(0);
  }

  public int clear(int router) throws IndexOutOfBoundsException {
    Router place = net.at(router);
    int gone = place.tally(0);
    place.forgetAll();
    return gone;
  }

  public int knock() {
    journal.knocks++;
    return journal.knocks;
  }

  // ---- what is asked of ways

  public int way(int router, int address) throws IndexOutOfBoundsException {
    return net.at(router).live.wayAt(numberOf(address));
  }

  public int length(int router, int address) throws IndexOutOfBoundsException {
    Ways live = net.at(router).live;
    return live.bitsOf(live.bestAt(numberOf(address), NONE));
  }

  public String best(int router, int address) throws IndexOutOfBoundsException {
    Ways live = net.at(router).live;
    int found = live.bestAt(numberOf(address), NONE);
    if (found == NONE) {
      return "none";
    }
    signs.setLength(0);
    putPrefix(live.startOf(found), live.bitsOf(found));
    return signs.toString();
  }

  public int without(int router, int address, int length, int asked)
      throws IndexOutOfBoundsException, IllegalArgumentException {
    Ways live = net.at(router).live;
    checkArgument(isLength(length));
    int left = live.placeOf(firstIn(address, length), length);
    return live.wayOf(live.bestAt(numberOf(asked), left));
  }

  public String dotted(int address) {
    signs.setLength(0);
    putAddress(numberOf(address));
    return signs.toString();
  }

  // ---- what is asked of tables

  public int offers(int router, int address, int length) throws IndexOutOfBoundsException, IllegalArgumentException {
    Router place = net.at(router);
    checkArgument(isLength(length));
    Entry entry = place.known(firstIn(address, length), length);
    return entry == null ? 0 : entry.offerCount();
  }

  public int ofOffer(int router, int address, int length, int owner, int what)
      throws IndexOutOfBoundsException, IllegalArgumentException {
    Router place = net.at(router);
    checkOwner(owner);
    checkArgument(isLength(length) && what >= 0 && what <= 2);
    Entry entry = place.known(firstIn(address, length), length);
    if (entry == null || !entry.hasOffer(owner)) {
      return REFUSED;
    }
    switch (what) {
      case 0:
        return entry.wayBy(owner);
      case 1:
        return entry.costBy(owner);
      default:
        return entry.isDamped(owner) ? 1 : 0;
    }
  }

  public int chosen(int router, int address, int length) throws IndexOutOfBoundsException, IllegalArgumentException {
    Router place = net.at(router);
    checkArgument(isLength(length));
    Entry entry = place.known(firstIn(address, length), length);
    return entry == null ? NONE : entry.chosenOwner();
  }

  public int hits(int router, int address, int length) throws IndexOutOfBoundsException, IllegalArgumentException {
    Router place = net.at(router);
    checkArgument(isLength(length));
    Entry entry = place.known(firstIn(address, length), length);
    return entry == null || !entry.isOffered() ? REFUSED : entry.hitCount();
  }

  public int penalty(int router, int address, int length, int owner)
      throws IndexOutOfBoundsException, IllegalArgumentException {
    Router place = net.at(router);
    checkOwner(owner);
    checkArgument(isLength(length));
    Entry entry = place.known(firstIn(address, length), length);
    return entry == null ? 0 : entry.penaltyBy(owner);
  }

  public int table(int router, int what) throws IndexOutOfBoundsException, IllegalArgumentException {
    Router place = net.at(router);
    checkArgument(what >= 0 && what <= 5);
    return place.tally(what);
  }

  public int lengthFrom(int router, int from, boolean isDown)
      throws IndexOutOfBoundsException, IllegalArgumentException {
    Router place = net.at(router);
    checkArgument(from <= BITS);
    if (from < NONE || from == NONE && !isDown) {
      return REFUSED;
    }
    return isDown ? place.live.bitsDownFrom(from) : place.live.bitsUpFrom(from);
  }

  public String text(int router) throws IndexOutOfBoundsException {
    writeTable(net.at(router).live);
    return signs.toString();
  }

  // ---- what is asked of ranges

  public int ranges(int router) throws IndexOutOfBoundsException {
    return net.at(router).ranges.count();
  }

  public long range(int router, int number, int what) throws IndexOutOfBoundsException, IllegalArgumentException {
    Ranges ranges = net.at(router).ranges;
    checkIndex(number >= 0 && number < ranges.count());
    checkArgument(what >= 0 && what <= 3);
    switch (what) {
      case 0:
        return ranges.beginOf(number);
      case 1:
        return ranges.endOf(number);
      case 2:
        return ranges.wayOf(number);
      default:
        return ranges.sizeOf(number);
    }
  }

  public String rangesText(int router) throws IndexOutOfBoundsException {
    writeRanges(net.at(router).ranges);
    return signs.toString();
  }

  public int window(int router, int from, int to) throws IndexOutOfBoundsException {
    Ranges ranges = net.at(router).ranges;
    long low = numberOf(from);
    long high = numberOf(to);
    if (low > high) {
      return REFUSED;
    }
    int inside = 0;
    for (int i = 0; i < ranges.count(); i++) {
      if (ranges.beginOf(i) >= low && ranges.beginOf(i) <= high) {
        inside++;
      }
    }
    return inside;
  }

  public long edge(int router, int from, int to, boolean isLast)
      throws IndexOutOfBoundsException, IllegalArgumentException {
    Ranges ranges = net.at(router).ranges;
    long low = numberOf(from);
    long high = numberOf(to);
    checkArgument(low <= high);
    long found = NONE;
    for (int i = 0; i < ranges.count(); i++) {
      long begin = ranges.beginOf(i);
      if (begin >= low && begin <= high && (isLast || found == NONE)) {
        found = begin;
      }
    }
    return found;
  }

  public long share(int router, int way) throws IndexOutOfBoundsException, IllegalArgumentException {
    Ranges ranges = net.at(router).ranges;
    checkArgument(isWayOrNone(way));
    long addresses = 0;
    for (int i = 0; i < ranges.count(); i++) {
      if (ranges.wayOf(i) == way) {
        addresses += ranges.sizeOf(i);
      }
    }
    return addresses;
  }

  // ---- what is asked of least tables and of two tables

  public int leastSize(int router) throws IndexOutOfBoundsException {
    maker.make(net.at(router).ranges, leastWays);
    return leastWays.count();
  }

  public String least(int router) throws IndexOutOfBoundsException {
    maker.make(net.at(router).ranges, leastWays);
    writeTable(leastWays);
    return signs.toString();
  }

  public boolean alike(int router, int other) throws IndexOutOfBoundsException {
    Ranges one = net.at(router).ranges;
    return one.isSameAs(net.at(other).ranges);
  }

  public long parting(int router, int other) throws IndexOutOfBoundsException {
    Ranges one = net.at(router).ranges;
    return one.firstUnlike(net.at(other).ranges);
  }

  public long differ(int router, int other) throws IndexOutOfBoundsException {
    Ranges one = net.at(router).ranges;
    return one.countUnlike(net.at(other).ranges);
  }

  // ---- what is asked of the net

  public int linkOf(int router, int way) throws IndexOutOfBoundsException, IllegalArgumentException {
    Router place = net.at(router);
    checkArgument(isWay(way));
    return place.linkBy(way);
  }

  public String trace(int router, int address) throws IndexOutOfBoundsException {
    writeTrail(net.follow(router, numberOf(address)));
    return signs.toString();
  }

  public int fate(int router, int address) throws IndexOutOfBoundsException {
    return net.follow(router, numberOf(address));
  }

  public long reach(int router, int fate) throws IndexOutOfBoundsException, IllegalArgumentException {
    net.at(router);
    checkArgument(isFate(fate));
    net.weighFates(router);
    return net.addressesOf(fate);
  }

  public long firstOf(int router, int fate) throws IndexOutOfBoundsException, IllegalArgumentException {
    net.at(router);
    checkArgument(isFate(fate));
    net.weighFates(router);
    return net.firstNumberOf(fate);
  }

  public String recent(int place) throws IllegalArgumentException {
    checkArgument(place >= 0 && place < MOST_RECENT);
    writeRecent(place);
    return signs.toString();
  }

  public int books(int what) throws IllegalArgumentException {
    checkArgument(what >= 0 && what <= 2);
    switch (what) {
      case 0:
        return journal.recentCount();
      case 1:
        return journal.lost;
      default:
        return journal.knocks;
    }
  }

  public boolean isSound() {
    for (int router = 0; router < ROUTERS; router++) {
      if (!isRouterSound(router)) {
        return false;
      }
    }
    for (int router = 0; router < ROUTERS; router++) {
      for (int other = router + 1; other < ROUTERS; other++) {
        boolean isAlike = alike(router, other);
        if (isAlike != (differ(router, other) == 0) || isAlike != (parting(router, other) == NONE)) {
          return false;
        }
      }
    }
    return true;
  }

  public long digest() {
    long d = 5301;
    for (int router = 0; router < ROUTERS; router++) {
      d = mixTable(d, router);
      d = mixTexts(d, router);
      d = mixNet(d, router);
    }
    for (int router = 0; router < ROUTERS; router++) {
      for (int other = router + 1; other < ROUTERS; other++) {
        d = mix(d, differ(router, other));
        d = mix(d, parting(router, other));
      }
    }
    for (int place = 0; place < MOST_RECENT; place++) {
      writeRecent(place);
      d = mix(d, signs.length());
    }
    for (int what = 0; what <= 2; what++) {
      d = mix(d, books(what));
    }
    return mix(d, isSound() ? 1 : 0);
  }

  // ---- parts of the digest

  private static long mix(long d, long value) {
    return d * 31 + value;
  }

  private long mixTable(long start, int router) {
    Ranges ranges = net.at(router).ranges;
    long d = start;
    for (int what = 0; what <= 5; what++) {
      d = mix(d, table(router, what));
    }
    d = mix(d, ranges.count());
    for (int i = 0; i < ranges.count(); i++) {
      d = mix(d, ranges.beginOf(i));
      d = mix(d, ranges.wayOf(i));
      d = mix(d, ranges.sizeOf(i));
    }
    for (int way = NONE; way < WAYS; way++) {
      d = mix(d, share(router, way));
    }
    return d;
  }

  private long mixTexts(long start, int router) {
    Router place = net.at(router);
    maker.make(place.ranges, leastWays);
    long d = mix(start, leastWays.count());
    writeTable(place.live);
    d = mix(d, signs.length());
    writeRanges(place.ranges);
    d = mix(d, signs.length());
    writeTable(leastWays);
    return mix(d, signs.length());
  }

  private long mixNet(long start, int router) {
    long d = start;
    for (int way = 0; way < WAYS; way++) {
      d = mix(d, linkOf(router, way));
    }
    net.weighFates(router);
    for (int fate = 0; fate < FATES; fate++) {
      d = mix(d, net.addressesOf(fate));
    }
    for (int fate = 0; fate < FATES; fate++) {
      d = mix(d, net.firstNumberOf(fate));
    }
    d = mix(d, lengthFrom(router, BITS, true));
    return mix(d, lengthFrom(router, 0, false));
  }

  // ---- parts of isSound

  private boolean isRouterSound(int router) {
    Router place = net.at(router);
    net.weighFates(router);
    long weighed = net.addressesOf(ARRIVES) + net.addressesOf(DIES) + net.addressesOf(GOES_ROUND);
    return place.ranges.hasUnlikeNeighbours()
        && place.ranges.tellsAsAtEdges(place.live)
        && isLeastSound(place)
        && weighed == ADDRESSES
        && place.tally(0) <= MOST_PREFIXES;
  }

  private boolean isLeastSound(Router place) {
    maker.make(place.ranges, leastWays);
    if (leastWays.count() > place.live.count() || !place.ranges.isToldBy(leastWays)) {
      return false;
    }
    leastRanges.makeFrom(leastWays);
    maker.make(leastRanges, leastOfLeast);
    return leastWays.isSameAs(leastOfLeast);
  }

  // ---- checks of what is told

  private static void checkOwner(int owner) {
    checkIndex(owner >= 0 && owner < OWNERS);
  }

  private static void checkIndex(boolean isRight) {
    if (!isRight) {
      throw new IndexOutOfBoundsException("there is none of that number");
    }
  }

  private static void checkArgument(boolean isRight) {
    if (!isRight) {
      throw new IllegalArgumentException("a number is outside its bounds");
    }
  }

  private static boolean isLength(int length) {
    return length >= 0 && length <= BITS;
  }

  private static boolean isWay(int way) {
    return way >= 0 && way < WAYS;
  }

  private static boolean isWayOrNone(int way) {
    return way == NONE || isWay(way);
  }

  private static boolean isFate(int fate) {
    return fate >= 0 && fate < FATES;
  }

  // ---- addresses, and texts in the one builder that all calls share

  private static long numberOf(int address) {
    return address & LAST_NUMBER;
  }

  private static long firstIn(int address, int length) {
    int others = BITS - length;
    return numberOf(address) >> others << others;
  }

  /** Puts a number from -999 to 999. A digest puts some thousand: digit by digit none needs an object on its way. */
  private void putNumber(int number) {
    if (number < 0) {
      signs.append('-');
    }
    int size = number < 0 ? -number : number;
    if (size >= 100) {
      putDigit(size / 100);
    }
    if (size >= 10) {
      putDigit(size / 10 % 10);
    }
    putDigit(size % 10);
  }

  private void putDigit(int digit) {
    signs.append((char) ('0' + digit));
  }

  private void putAddress(long number) {
    for (int shift = 24; shift >= 0; shift -= 8) {
      putNumber((int) (number >> shift & 255));
      if (shift > 0) {
        signs.append('.');
      }
    }
  }

  private void putPrefix(long first, int bits) {
    putAddress(first);
    signs.append('/');
    putNumber(bits);
  }

  private void putBlankAfter(int place) {
    if (place > 0) {
      signs.append(' ');
    }
  }

  private void writeTable(Ways table) {
    signs.setLength(0);
    for (int i = 0; i < table.count(); i++) {
      putBlankAfter(i);
      putPrefix(table.startOf(i), table.bitsOf(i));
      signs.append('>');
      putNumber(table.wayOf(i));
    }
  }

  private void writeRanges(Ranges ranges) {
    signs.setLength(0);
    for (int i = 0; i < ranges.count(); i++) {
      putBlankAfter(i);
      putAddress(ranges.beginOf(i));
      signs.append('>');
      putNumber(ranges.wayOf(i));
    }
  }

  private void writeTrail(int fate) {
    signs.setLength(0);
    for (int i = 0; i < net.trailCount(); i++) {
      if (i > 0) {
        signs.append('>');
      }
      putNumber(net.trailAt(i));
    }
    if (fate == ARRIVES) {
      signs.append(">out");
    } else if (fate == DIES) {
      signs.append(">dead");
    }
  }

  private void writeRecent(int place) {
    signs.setLength(0);
    if (place < journal.recentCount()) {
      putPrefix(journal.recentFirst(place), journal.recentBits(place));
    } else {
      signs.append("none");
    }
  }

  private void noteFirstHop(Ways live, long number) {
    int found = live.bestAt(number, NONE);
    if (found == NONE) {
      journal.lost++;
    } else {
      journal.remember(live.startOf(found), live.bitsOf(found));
    }
  }

  /** A prefix that a router knows, with its offers and penalties; it is in the table while it has an offer. */
  static final class Entry {
    final long first;
    final int bits;
    private final int[] ways = new int[OWNERS];
    // The cost of an owner that has no offer is NONE.
    private final int[] costs = new int[OWNERS];
    private final int[] penalties = new int[OWNERS];
    private int offerCount;
    private int hitCount;

    Entry(long first, int bits) {
      this.first = first;
      this.bits = bits;
      for (int owner = 0; owner < OWNERS; owner++) {
        costs[owner] = NONE;
      }
    }

    boolean isOffered() {
      return offerCount > 0;
    }

    int offerCount() {
      return offerCount;
    }

    int hitCount() {
      return hitCount;
    }

    boolean hasOffer(int owner) {
      return costBy(owner) != NONE;
    }

    int costBy(int owner) {
      return owner >= 0 && owner < OWNERS ? costs[owner] : NONE;
    }

    int wayBy(int owner) {
      return owner >= 0 && owner < OWNERS ? ways[owner] : NONE;
    }

    int penaltyBy(int owner) {
      return owner >= 0 && owner < OWNERS ? penalties[owner] : 0;
    }

    boolean isDamped(int owner) {
      return penaltyBy(owner) >= DAMPING_PENALTY;
    }

    void tell(int owner, int way, int cost) {
      if (owner < 0 || owner >= OWNERS) {
        return;
      }
      if (!hasOffer(owner)) {
        offerCount++;
      }
      ways[owner] = way;
      costs[owner] = cost;
    }

    void takeBack(int owner) {
      if (!hasOffer(owner)) {
        return;
      }
      costs[owner] = NONE;
      penalties[owner] = Math.min(penalties[owner] + PENALTY_STEP, MOST_PENALTY);
      offerCount--;
      if (offerCount == 0) {
        hitCount = 0;
      }
    }

    void addHit() {
      hitCount++;
    }

    int chosenOwner() {
      int chosen = NONE;
      for (int owner = 0; owner < OWNERS; owner++) {
        if (hasOffer(owner) && !isDamped(owner) && (chosen == NONE || costBy(owner) < costBy(chosen))) {
          chosen = owner;
        }
      }
      return chosen;
    }

    void halvePenalties() {
      for (int owner = 0; owner < OWNERS; owner++) {
        int half = penalties[owner] / 2;
        penalties[owner] = half < LEAST_PENALTY ? 0 : half;
      }
    }

    int penaltyCount() {
      int above = 0;
      for (int owner = 0; owner < OWNERS; owner++) {
        if (penalties[owner] > 0) {
          above++;
        }
      }
      return above;
    }

    boolean isBefore(long otherFirst, int otherBits) {
      return first < otherFirst || first == otherFirst && bits < otherBits;
    }
  }

  /** One router: what it knows of prefixes, its links, and, kept new by renew(), its live prefixes and ranges. */
  static final class Router {
    final Ways live = new Ways();
    final Ranges ranges = new Ranges();
    private final ArrayList<Entry> entries = new ArrayList<>();
    private final int[] links = new int[WAYS];

    Router() {
      for (int way = 0; way < WAYS; way++) {
        links[way] = NOWHERE;
      }
    }

    int linkBy(int way) {
      return way >= 0 && way < WAYS ? links[way] : NOWHERE;
    }

    void setLink(int way, int to) {
      if (way >= 0 && way < WAYS) {
        links[way] = to;
      }
    }

    Entry known(long first, int bits) {
      for (int i = 0; i < entries.size(); i++) {
        Entry entry = entries.get(i);
        if (entry.first == first && entry.bits == bits) {
          return entry;
        }
      }
      return null;
    }

    boolean isFull() {
      return tally(0) >= MOST_PREFIXES || entries.size() >= MOST_KNOWN;
    }

    Entry learn(long first, int bits) {
      int place = 0;
      while (place < entries.size() && entries.get(place).isBefore(first, bits)) {
        place++;
      }
      Entry entry = new Entry(first, bits);
      entries.add(place, entry);
      return entry;
    }

    int takeAllBack(int owner) {
      int taken = 0;
      for (int i = 0; i < entries.size(); i++) {
        Entry entry = entries.get(i);
        if (entry.hasOffer(owner)) {
          entry.takeBack(owner);
          taken++;
        }
      }
      renew();
      return taken;
    }

    int passMinute() {
      for (int i = entries.size() - 1; i >= 0; i--) {
        Entry entry = entries.get(i);
        entry.halvePenalties();
        if (!entry.isOffered() && entry.penaltyCount() == 0) {
          entries.remove(i);
        }
      }
      renew();
      return tally(5);
    }

    void forgetAll() {
      entries.clear();
      renew();
    }

    void become(Ways table) {
      entries.clear();
      for (int i = 0; i < table.count(); i++) {
        learn(table.startOf(i), table.bitsOf(i)).tell(0, table.wayOf(i), 0);
      }
      renew();
    }

    void addHit(int place) {
      Entry entry = known(live.startOf(place), live.bitsOf(place));
      if (entry != null) {
        entry.addHit();
      }
    }

    /** What table() tells, by the same numbers. */
    int tally(int what) {
      if (what == 1) {
        return live.count();
      }
      if (what == 3) {
        return live.lengthCount();
      }
      int sum = 0;
      for (int i = 0; i < entries.size(); i++) {
        Entry entry = entries.get(i);
        switch (what) {
          case 0:
            sum += entry.isOffered() ? 1 : 0;
            break;
          case 2:
            sum += entry.offerCount();
            break;
          case 4:
            sum += entry.hitCount();
            break;
          default:
            sum += entry.penaltyCount();
            break;
        }
      }
      return sum;
    }

    void renew() {
      live.clearAll();
      for (int i = 0; i < entries.size(); i++) {
        Entry entry = entries.get(i);
        int chosen = entry.chosenOwner();
        if (chosen != NONE) {
          live.add(entry.first, entry.bits, entry.wayBy(chosen));
        }
      }
      ranges.makeFrom(live);
    }
  }

  /** A set of at most 12 prefixes in their order, each with a way or NONE. */
  static final class Ways {
    private final long[] firsts = new long[MOST_PREFIXES];
    private final int[] bits = new int[MOST_PREFIXES];
    private final int[] ways = new int[MOST_PREFIXES];
    private int count;

    int count() {
      return count;
    }

    void clearAll() {
      count = 0;
    }

    void add(long first, int length, int way) {
      if (count < MOST_PREFIXES) {
        firsts[count] = first;
        bits[count] = length;
        ways[count] = way;
        count++;
      }
    }

    boolean has(int place) {
      return place >= 0 && place < count;
    }

    long startOf(int place) {
      return has(place) ? firsts[place] : NONE;
    }

    int bitsOf(int place) {
      return has(place) ? bits[place] : NONE;
    }

    int wayOf(int place) {
      return has(place) ? ways[place] : NONE;
    }

    long lastOf(int place) {
      return has(place) ? firsts[place] + (ADDRESSES >> bits[place]) - 1 : NONE;
    }

    int placeOf(long first, int length) {
      for (int i = 0; i < count; i++) {
        if (firsts[i] == first && bits[i] == length) {
          return i;
        }
      }
      return NONE;
    }

    /** The place of the longest prefix with the number in it, the one at the place left out not looked at. */
    int bestAt(long number, int left) {
      int found = NONE;
      for (int i = 0; i < count; i++) {
        int others = BITS - bits[i];
        boolean isIn = number >> others == firsts[i] >> others;
        if (isIn && i != left && (found == NONE || bits[i] > bits[found])) {
          found = i;
        }
      }
      return found;
    }

    int wayAt(long number) {
      return wayOf(bestAt(number, NONE));
    }

    int bitsDownFrom(int from) {
      int found = NONE;
      for (int i = 0; i < count; i++) {
        if (bits[i] <= from && bits[i] > found) {
          found = bits[i];
        }
      }
      return found;
    }

    int bitsUpFrom(int from) {
      int found = NONE;
      for (int i = 0; i < count; i++) {
        if (bits[i] >= from && (found == NONE || bits[i] < found)) {
          found = bits[i];
        }
      }
      return found;
    }

    int lengthCount() {
      long lengths = 0;
      for (int i = 0; i < count; i++) {
        lengths |= 1L << bits[i];
      }
      return Long.bitCount(lengths);
    }

    /** The least number above the given one at which a prefix begins or has just ended. */
    long cutAfter(long number) {
      long cut = ADDRESSES;
      for (int i = 0; i < count; i++) {
        long behind = lastOf(i) + 1;
        if (firsts[i] > number) {
          cut = Math.min(cut, firsts[i]);
        } else if (behind > number) {
          cut = Math.min(cut, behind);
        }
      }
      return cut;
    }

    boolean isSameAs(Ways other) {
      if (count != other.count) {
        return false;
      }
      for (int i = 0; i < count; i++) {
        if (firsts[i] != other.startOf(i) || bits[i] != other.bitsOf(i) || ways[i] != other.wayOf(i)) {
          return false;
        }
      }
      return true;
    }
  }

  /** The ranges of a set of prefixes, by rising addresses; at first all addresses have the way NONE. */
  static final class Ranges {
    private final long[] begins = new long[MOST_RANGES];
    private final int[] ways = new int[MOST_RANGES];
    private int count = 1;

    Ranges() {
      ways[0] = NONE;
    }

    void makeFrom(Ways table) {
      count = 0;
      long number = 0;
      for (int step = 0; step < MOST_RANGES && number < ADDRESSES; step++) {
        int way = table.wayAt(number);
        if (count == 0 || ways[count - 1] != way) {
          begins[count] = number;
          ways[count] = way;
          count++;
        }
        number = table.cutAfter(number);
      }
    }

    int count() {
      return count;
    }

    long beginOf(int place) {
      return place >= 0 && place < count ? begins[place] : ADDRESSES;
    }

    long endOf(int place) {
      return beginOf(place + 1) - 1;
    }

    int wayOf(int place) {
      return place >= 0 && place < count ? ways[place] : NONE;
    }

    long sizeOf(int place) {
      return beginOf(place + 1) - beginOf(place);
    }

    int placeAt(long number) {
      int place = 0;
      while (place + 1 < count && begins[place + 1] <= number) {
        place++;
      }
      return place;
    }

    boolean isSameAs(Ranges other) {
      if (count != other.count) {
        return false;
      }
      for (int i = 0; i < count; i++) {
        if (begins[i] != other.beginOf(i) || ways[i] != other.wayOf(i)) {
          return false;
        }
      }
      return true;
    }

    long firstUnlike(Ranges other) {
      int mine = 0;
      int its = 0;
      for (int step = 0; step < 2 * MOST_RANGES && mine < count && its < other.count; step++) {
        if (wayOf(mine) != other.wayOf(its)) {
          return Math.max(beginOf(mine), other.beginOf(its));
        }
        long end = Math.min(endOf(mine), other.endOf(its));
        mine += endOf(mine) == end ? 1 : 0;
        its += other.endOf(its) == end ? 1 : 0;
      }
      return NONE;
    }

    long countUnlike(Ranges other) {
      long unlike = 0;
      for (int mine = 0; mine < count; mine++) {
        for (int its = 0; its < other.count; its++) {
          long begin = Math.max(beginOf(mine), other.beginOf(its));
          long end = Math.min(endOf(mine), other.endOf(its));
          if (begin <= end && wayOf(mine) != other.wayOf(its)) {
            unlike += end - begin + 1;
          }
        }
      }
      return unlike;
    }

    boolean hasUnlikeNeighbours() {
      for (int i = 1; i < count; i++) {
        if (ways[i] == ways[i - 1]) {
          return false;
        }
      }
      return true;
    }

    /** Whether the table tells the way of the first and the last address of each range. */
    boolean isToldBy(Ways table) {
      for (int i = 0; i < count; i++) {
        if (table.wayAt(beginOf(i)) != ways[i] || table.wayAt(endOf(i)) != ways[i]) {
          return false;
        }
      }
      return true;
    }

    /** Whether ranges and table tell the same at the edges of each range and of each prefix. */
    boolean tellsAsAtEdges(Ways table) {
      for (int i = 0; i < table.count(); i++) {
        long first = table.startOf(i);
        long last = table.lastOf(i);
        if (wayOf(placeAt(first)) != table.wayAt(first) || wayOf(placeAt(last)) != table.wayAt(last)) {
          return false;
        }
      }
      return isToldBy(table);
    }
  }

  /**
   * Makes least tables. It goes twice through the same prefixes in the same order: first to gather their sets, from
   * below, then to choose their ways, from above; so a set is found again by how many prefixes came before.
   */
  static final class LeastMaker {
    private final int[] sets = new int[MOST_NODES];
    private final boolean[] areWhole = new boolean[MOST_NODES];
    private int gathered;
    private int seen;

    void make(Ranges ranges, Ways result) {
      gathered = 0;
      gather(this, ranges, 0, 0);
      seen = 0;
      result.clearAll();
      choose(this, result, 0, 0, NONE);
    }

    private static int gather(LeastMaker maker, Ranges ranges, long first, int bits) {
      if (bits > BITS || maker.gathered >= MOST_NODES) {
        return 0;
      }
      int node = maker.gathered;
      maker.gathered++;
      int place = ranges.placeAt(first);
      long size = ADDRESSES >> bits;
      maker.areWhole[node] = ranges.endOf(place) >= first + size - 1;
      if (maker.areWhole[node]) {
        maker.sets[node] = bitOf(ranges.wayOf(place));
      } else {
        int lower = gather(maker, ranges, first, bits + 1);
        int upper = gather(maker, ranges, first + size / 2, bits + 1);
        maker.sets[node] = (lower & upper) != 0 ? lower & upper : lower | upper;
      }
      return maker.sets[node];
    }

    private static void choose(LeastMaker maker, Ways result, long first, int bits, int inherited) {
      if (bits > BITS || maker.seen >= maker.gathered) {
        return;
      }
      int node = maker.seen;
      maker.seen++;
      int way = inherited;
      if ((maker.sets[node] & bitOf(inherited)) == 0) {
        way = smallestIn(maker.sets[node]);
        result.add(first, bits, way);
      }
      if (!maker.areWhole[node]) {
        choose(maker, result, first, bits + 1, way);
        choose(maker, result, first + (ADDRESSES >> bits) / 2, bits + 1, way);
      }
    }

    private static int bitOf(int way) {
      return 1 << (way + 1);
    }

    private static int smallestIn(int set) {
      for (int way = NONE; way < WAYS; way++) {
        if ((set & bitOf(way)) != 0) {
          return way;
        }
      }
      return NONE;
    }
  }

  /** The four routers and what goes from one to the other. */
  static final class Net {
    private final Router router0 = new Router();
    private final Router router1 = new Router();
    private final Router router2 = new Router();
    private final Router router3 = new Router();
    private final int[] trail = new int[ROUTERS + 1];
    private int trailCount;
    private final long[] fateAddresses = new long[FATES];
    private final long[] fateFirsts = new long[FATES];

    Router at(int router) {
      switch (router) {
        case 0:
          return router0;
        case 1:
          return router1;
        case 2:
          return router2;
        case 3:
          return router3;
        default:
          throw new IndexOutOfBoundsException("there is no such router");
      }
    }

    int trailCount() {
      return trailCount;
    }

    int trailAt(int place) {
      return place >= 0 && place < trailCount ? trail[place] : NONE;
    }

    long addressesOf(int fate) {
      return fate >= 0 && fate < FATES ? fateAddresses[fate] : 0;
    }

    long firstNumberOf(int fate) {
      return fate >= 0 && fate < FATES ? fateFirsts[fate] : NONE;
    }

    /** One hop of a message that was sent; answers the link by which it went, NOWHERE if it died. */
    int hop(int router, long number) {
      Router here = at(router);
      int found = here.live.bestAt(number, NONE);
      if (found == NONE) {
        return NOWHERE;
      }
      here.addHit(found);
      return here.linkBy(here.live.wayOf(found));
    }

    /** Traces an address; answers its fate, and leaves the routers to which it comes in the trail. */
    int follow(int router, long number) {
      trailCount = 0;
      int here = router;
      int visited = 0;
      for (int hop = 0; hop < ROUTERS && (visited >> here & 1) == 0; hop++) {
        Router place = at(here);
        comeTo(here);
        visited |= 1 << here;
        int next = place.linkBy(place.live.wayAt(number));
        if (next == OUT) {
          return ARRIVES;
        }
        if (next == NOWHERE) {
          return DIES;
        }
        here = next;
      }
      comeTo(here);
      return GOES_ROUND;
    }

    private void comeTo(int router) {
      if (trailCount <= ROUTERS) {
        trail[trailCount] = router;
        trailCount++;
      }
    }

    /** Weighs all addresses by their fates; between two edges of ranges, whosever they are, all have one fate. */
    void weighFates(int router) {
      for (int fate = 0; fate < FATES; fate++) {
        fateAddresses[fate] = 0;
        fateFirsts[fate] = NONE;
      }
      long number = 0;
      for (int step = 0; step < ROUTERS * MOST_RANGES && number < ADDRESSES; step++) {
        long end = endAt(number);
        weigh(follow(router, number), number, end);
        number = end + 1;
      }
    }

    private void weigh(int fate, long begin, long end) {
      if (fate >= 0 && fate < FATES) {
        fateAddresses[fate] += end - begin + 1;
        if (fateFirsts[fate] == NONE) {
          fateFirsts[fate] = begin;
        }
      }
    }

    private long endAt(long number) {
      long end = LAST_NUMBER;
      for (int router = 0; router < ROUTERS; router++) {
        Ranges ranges = at(router).ranges;
        end = Math.min(end, ranges.endOf(ranges.placeAt(number)));
      }
      return end;
    }
  }

  /** The books on messages that were sent, and on knocks. */
  static final class Journal {
    private final long[] firsts = new long[MOST_RECENT];
    private final int[] bits = new int[MOST_RECENT];
    private int recentCount;
    int lost;
    int knocks;

    int recentCount() {
      return recentCount;
    }

    long recentFirst(int place) {
      return place >= 0 && place < recentCount ? firsts[place] : NONE;
    }

    int recentBits(int place) {
      return place >= 0 && place < recentCount ? bits[place] : NONE;
    }

    void remember(long first, int length) {
      if (recentCount >= MOST_RECENT) {
        dropOldest();
      }
      firsts[recentCount] = first;
      bits[recentCount] = length;
      recentCount++;
    }

    private void dropOldest() {
      for (int i = 1; i < recentCount; i++) {
        firsts[i - 1] = firsts[i];
        bits[i - 1] = bits[i];
      }
      recentCount--;
    }
  }
}
