/** Two puppets of rods and joints on strings; the document tells what each call does. */
public final class Stringpuppet {
  private static final int NONE = -1;
  private static final int REFUSED = -9;

  private static final int WIDTH = 8;
  private static final int TALL = 6;
  private static final int PLACES = WIDTH * TALL;
  private static final int PUPPETS = 2;
  private static final int JOINTS = 4;
  private static final int STRINGS = 3;
  private static final int PEGS = 5;
  private static final int MOMENTS = 16;
  private static final int MOST_LET = 9;
  private static final int MOST_WEIGHT = 9;
  private static final int STRANDS = 4;
  private static final int MOST_ROW = 20;
  private static final int PLAYERS = 3;
  private static final int MOST_SIGNS = 40;
  private static final int MOST_PAPER = 134;
  private static final int STEPS = 8;
  private static final int LONGEST_PERIOD = 8;

  private static final int COLON = 10;
  private static final int COMMA = 11;
  private static final int SEMICOLON = 12;

  /** The places with y 0, a bit each. */
  private static final long FLOOR = 0x41041041041L;
  private static final long STAGE = (1L << PLACES) - 1;

  private final State now = new State();
  private final Past past = new Past();
  private final Finder finder = new Finder();
  private final Pulls pulls = new Pulls();
  private final Paper written = new Paper(MOST_SIGNS);
  private final Paper scrap = new Paper(MOST_PAPER);
  private final Puppet twin = new Puppet(0, 0);
  private final Row posesByMoment = new Row(MOMENTS, NONE);
  private final StringBuilder text = new StringBuilder();
  private int refusals = 0;
  private int knocks = 0;

  public Stringpuppet() {
  }

  // ---- puppets, crosses

  public int joint(int puppet, int parent, int square, int weight) throws IndexOutOfBoundsException, IllegalArgumentException, IllegalStateException {
    Puppet it = jointed(puppet, parent);
    needSquare(square);
    needWithin(weight, 0, MOST_WEIGHT);
    if (it.jointCount >= JOINTS) {
      throw new IllegalStateException("all joints are there");
    }
    past.keep(now);
    return it.addJoint(parent, square, weight);
  }

  public int unjoint(int puppet) throws IndexOutOfBoundsException, IllegalStateException {
    Puppet it = existing(puppet);
    if (it.jointCount <= 1) {
      throw new IllegalStateException("the joint 0 stays");
    }
    past.keep(now);
    it.removeJoint();
    return it.jointCount;
  }

  public int weight(int puppet, int joint, int weight) throws IndexOutOfBoundsException, IllegalArgumentException {
    Puppet it = jointed(puppet, joint);
    needWithin(weight, 0, MOST_WEIGHT);
    past.keep(now);
    int before = it.weightOf(joint);
    it.setWeight(joint, weight);
    return before;
  }

  public int string(int puppet, int peg, int joint, int let) throws IndexOutOfBoundsException, IllegalArgumentException, IllegalStateException {
    needNumber(peg, PEGS);
    Puppet it = jointed(puppet, joint);
    needWithin(let, 0, MOST_LET);
    if (it.stringCount >= STRINGS) {
      throw new IllegalStateException("all strings are there");
    }
    past.keep(now);
    return it.addString(peg, joint, let);
  }

  public int cut(int puppet, int string) throws IndexOutOfBoundsException {
    Puppet it = strung(puppet, string);
    past.keep(now);
    it.removeString(string);
    return it.stringCount;
  }

  public int let(int puppet, int string, int let) throws IndexOutOfBoundsException, IllegalArgumentException {
    Puppet it = strung(puppet, string);
    needWithin(let, 0, MOST_LET);
    past.keep(now);
    int before = it.letOf(string);
    it.setLet(string, let);
    return before;
  }

  public int pull(int puppet, int string, int by) throws IndexOutOfBoundsException, IllegalArgumentException {
    Puppet it = strung(puppet, string);
    needWithin(by, -MOST_LET, MOST_LET);
    int let = it.letOf(string) - by;
    if (let < 0 || let > MOST_LET || losesPose(it, string, let)) {
      return refuse();
    }
    past.keep(now);
    it.setLet(string, let);
    return let;
  }

  public int cross(int puppet, int x) throws IndexOutOfBoundsException, IllegalArgumentException {
    Puppet it = existing(puppet);
    needWithin(x, 0, WIDTH - 1);
    past.keep(now);
    int before = it.crossX;
    it.crossX = x;
    return before;
  }

  public int tilt(int puppet, int tilt) throws IndexOutOfBoundsException, IllegalArgumentException {
    Puppet it = existing(puppet);
    needWithin(tilt, -1, 1);
    past.keep(now);
    int before = it.crossTilt;
    it.crossTilt = tilt;
    return before;
  }

  public int mirror(int puppet) throws IndexOutOfBoundsException {
    Puppet it = existing(puppet);
    past.keep(now);
    it.turnRound();
    return it.crossX;
  }

  // ---- tables, strands, players

  public int key(int puppet, int moment) throws IndexOutOfBoundsException, IllegalArgumentException {
    Puppet it = existing(puppet);
    needWithin(moment, 0, MOMENTS - 1);
    past.keep(now);
    it.keys.set(moment, it.letsNow());
    return it.keyCount();
  }

  public int unkey(int puppet, int moment) throws IndexOutOfBoundsException, IllegalArgumentException, IllegalStateException {
    Puppet it = existing(puppet);
    needWithin(moment, 0, MOMENTS - 1);
    if (it.keys.get(moment) == NONE) {
      throw new IllegalStateException("no key is there");
    }
    past.keep(now);
    it.keys.set(moment, NONE);
    return it.keyCount();
  }

  public int tear(int puppet, int string, int moment) throws IndexOutOfBoundsException, IllegalArgumentException {
    Puppet it = strung(puppet, string);
    needWithin(moment, NONE, MOMENTS - 1);
    past.keep(now);
    int before = it.tearOf(string);
    it.setTear(string, moment);
    return before;
  }

  public int exchange(int k, boolean isOver) throws IllegalArgumentException {
    needWithin(k, 0, STRANDS - 2);
    int exchange = 2 * k + (isOver ? 1 : 0);
    if (!now.strands.hasRoomFor(exchange)) {
      return refuse();
    }
    past.keep(now);
    now.strands.add(exchange);
    return now.strands.count;
  }

  public int untwist() throws IllegalStateException {
    if (now.strands.count == 0) {
      throw new IllegalStateException("the row is empty");
    }
    past.keep(now);
    now.strands.count--;
    return now.strands.count;
  }

  public int hand(int puppet, int player) throws IndexOutOfBoundsException, IllegalArgumentException {
    Puppet it = existing(puppet);
    needWithin(player, 0, PLAYERS - 1);
    if (now.puppetOf(1 - puppet).player == player) {
      return refuse();
    }
    past.keep(now);
    int before = it.player;
    it.player = player;
    return before;
  }

  public int thing(int x, int y) throws IllegalArgumentException {
    needPlace(x, y);
    past.keep(now);
    now.things ^= 1L << placeAt(x, y);
    return Long.bitCount(now.things);
  }

  public int read(int puppet) throws IndexOutOfBoundsException {
    Puppet it = existing(puppet);
    if (written.firstFault() != NONE) {
      return refuse();
    }
    past.keep(now);
    it.keys.copyFrom(written.keys);
    return it.keyCount();
  }

  // ---- slip, steps back

  public int type(int sign) throws IllegalArgumentException, IllegalStateException {
    needWithin(sign, 0, SEMICOLON);
    if (written.count >= MOST_SIGNS) {
      throw new IllegalStateException("the slip is full");
    }
    written.add(sign);
    return written.count;
  }

  public int wipe() {
    int before = written.count;
    written.count = 0;
    return before;
  }

  public int undo() throws IllegalStateException {
    if (past.count == 0) {
      throw new IllegalStateException("no step can be undone");
    }
    past.restore(now);
    return past.count;
  }

  public int knock() {
    knocks++;
    return knocks;
  }

  // ---- poses

  public String pose(int puppet) throws IndexOutOfBoundsException {
    Puppet it = existing(puppet);
    return textOfPose(it, poseNow(it));
  }

  public String at(int puppet, int moment) throws IndexOutOfBoundsException, IllegalArgumentException {
    Puppet it = existing(puppet);
    needWithin(moment, 0, MOMENTS - 1);
    return textOfPose(it, poseAt(it, moment));
  }

  public String lets(int puppet, int moment) throws IndexOutOfBoundsException, IllegalArgumentException {
    Puppet it = existing(puppet);
    needWithin(moment, 0, MOMENTS - 1);
    int lets = it.letsAt(moment);
    text.setLength(0);
    for (int string = 0; string < STRINGS; string++) {
      if (string > 0) {
        text.append(' ');
      }
      text.append(letIn(lets, string));
    }
    return text.toString();
  }

  public int place(int puppet, int joint, boolean isX) throws IndexOutOfBoundsException {
    Puppet it = jointed(puppet, joint);
    return coordinate(poseNow(it), joint, isX);
  }

  public int height(int puppet) throws IndexOutOfBoundsException {
    Puppet it = existing(puppet);
    return it.heightIn(poseNow(it));
  }

  public int poses(int puppet, boolean isShadow) throws IndexOutOfBoundsException {
    Puppet it = existing(puppet);
    return isShadow ? countLikeShadow(it, it.shadowIn(poseNow(it))) : finder.countWithin(it, 0, WIDTH - 1);
  }

  public int slack(int puppet) throws IndexOutOfBoundsException {
    Puppet it = existing(puppet);
    return slackStrings(it, poseNow(it));
  }

  public int carries(int puppet, int string) throws IndexOutOfBoundsException {
    Puppet it = strung(puppet, string);
    return heightCarried(it, poseNow(it), string);
  }

  public String balance(int puppet) throws IndexOutOfBoundsException {
    Puppet it = existing(puppet);
    writeBalance(it, poseNow(it));
    return text.toString();
  }

  public int falls(int puppet, int string) throws IndexOutOfBoundsException {
    Puppet it = strung(puppet, string);
    return fallenJoints(it, poseNow(it), string);
  }

  public int reach(int puppet, int joint, int string) throws IndexOutOfBoundsException {
    Puppet it = jointed(puppet, joint);
    strung(puppet, string);
    long reached = 0;
    for (int let = 0; let <= MOST_LET; let++) {
      int pose = poseWithLet(it, string, let);
      if (pose != NONE) {
        reached |= 1L << placeIn(pose, joint);
      }
    }
    return Long.bitCount(reached);
  }

  public int pulls(int puppet, int joint, int string, int x, int y) throws IndexOutOfBoundsException, IllegalArgumentException {
    Puppet it = jointed(puppet, joint);
    strung(puppet, string);
    needPlace(x, y);
    int least = NONE;
    for (int let = 0; let <= MOST_LET; let++) {
      int by = Math.abs(let - it.letOf(string));
      if (least == NONE || by < least) {
        int pose = poseWithLet(it, string, let);
        least = pose != NONE && placeIn(pose, joint) == placeAt(x, y) ? by : least;
      }
    }
    return least;
  }

  public int way(int puppet, int joint, int x, int y) throws IndexOutOfBoundsException, IllegalArgumentException {
    Puppet it = jointed(puppet, joint);
    needPlace(x, y);
    int pose = poseNow(it);
    return pose == NONE ? NONE : countSteps(placeIn(pose, joint), placeAt(x, y));
  }

  // ---- tables

  public boolean isFree(int puppet, int moment) throws IndexOutOfBoundsException, IllegalArgumentException {
    Puppet it = existing(puppet);
    needWithin(moment, 0, MOMENTS - 2);
    int from = poseAt(it, moment);
    int to = poseAt(it, moment + 1);
    return from != NONE && to != NONE && !rodsMeet(it, from) && !rodsMeet(it, to) && !jointsMeetRods(it, from, to);
  }

  public int feet(int puppet, int a, int b) throws IndexOutOfBoundsException {
    Puppet it = jointed(puppet, a);
    jointed(puppet, b);
    for (int moment = 0; moment < MOMENTS; moment++) {
      int pose = poseAt(it, moment);
      if (pose == NONE || yOf(placeIn(pose, a)) != 0 && yOf(placeIn(pose, b)) != 0) {
        return moment;
      }
    }
    return NONE;
  }

  public int period(int puppet) throws IndexOutOfBoundsException {
    return shortestPeriod(existing(puppet));
  }

  public int shadow(int puppet, int moment) throws IndexOutOfBoundsException, IllegalArgumentException {
    Puppet it = existing(puppet);
    needWithin(moment, 0, MOMENTS - 1);
    return it.shadowIn(poseAt(it, moment));
  }

  public int table(int puppet, int from, int to) throws IndexOutOfBoundsException, IllegalArgumentException {
    Puppet it = existing(puppet);
    needWithin(from, 0, MOMENTS - 1);
    needWithin(to, 0, MOMENTS - 1);
    int start = it.letsAt(from);
    int goal = it.letsAt(to);
    // A longer string takes no pose away: letting out first and pulling then keeps a pose all the way, if both ends have one.
    if (finder.told(it, start, 0) == NONE || finder.told(it, goal, 0) == NONE) {
      return NONE;
    }
    int steps = 0;
    for (int string = 0; string < it.stringCount; string++) {
      steps += Math.abs(letIn(goal, string) - letIn(start, string));
    }
    return steps;
  }

  public int clash() {
    for (int moment = 0; moment < MOMENTS; moment++) {
      if (isClash(poseAt(now.first, moment), poseAt(now.second, moment))) {
        return moment;
      }
    }
    return NONE;
  }

  public String row() {
    text.setLength(0);
    for (int i = 0; i < now.strands.count; i++) {
      if (i > 0) {
        text.append(' ');
      }
      int exchange = now.strands.exchanges.get(i);
      text.append(exchange / 2).append(exchange % 2 == 1 ? '+' : '-');
    }
    return text.toString();
  }

  public int strand(int place) throws IndexOutOfBoundsException {
    needNumber(place, STRANDS);
    now.strands.layOut();
    return now.strands.order.get(place);
  }

  public String paper(int puppet) throws IndexOutOfBoundsException {
    scrap.write(existing(puppet).keys);
    return textOfPaper(scrap);
  }

  public int fault() {
    return written.firstFault();
  }

  public String slip() {
    return textOfPaper(written);
  }

  // ---- what there is

  public int ofJoint(int puppet, int joint, int what) throws IndexOutOfBoundsException, IllegalArgumentException {
    Puppet it = jointed(puppet, joint);
    needWithin(what, 0, 4);
    return it.jointFact(joint, what);
  }

  public int ofString(int puppet, int string, int what) throws IndexOutOfBoundsException, IllegalArgumentException {
    Puppet it = strung(puppet, string);
    needWithin(what, 0, 5);
    return it.stringFact(string, what);
  }

  public int ofPuppet(int puppet, int what) throws IndexOutOfBoundsException, IllegalArgumentException {
    Puppet it = existing(puppet);
    needWithin(what, 0, 6);
    return it.fact(what);
  }

  public int house(int what) throws IllegalArgumentException {
    needWithin(what, 0, 5);
    switch (what) {
      case 0:
        return Long.bitCount(now.things);
      case 1:
        return now.strands.count;
      case 2:
        return past.count;
      case 3:
        return refusals;
      case 4:
        return knocks;
      default:
        return written.count;
    }
  }

  public boolean isSound() {
    return isPuppetSound(now.first) && isPuppetSound(now.second) && now.strands.isTakenBack();
  }

  public long digest() {
    long d = 6707;
    for (int what = 0; what <= 5; what++) {
      d = d * 31 + house(what);
    }
    d = addPuppet(d, now.first);
    d = addPuppet(d, now.second);
    d = d * 31 + clash();
    for (int place = 0; place < STRANDS; place++) {
      d = d * 31 + strand(place);
    }
    d = d * 31 + written.firstFault();
    return d * 31 + (isSound() ? 1 : 0);
  }

  // ---- what a call needs

  private static void needNumber(int number, int count) {
    if (number < 0 || number >= count) {
      throw new IndexOutOfBoundsException("there is none with that number");
    }
  }

  private static void needWithin(int number, int least, int most) {
    if (number < least || number > most) {
      throw new IllegalArgumentException("too small or too great");
    }
  }

  private static void needSquare(int square) {
    if (square != 1 && square != 2 && square != 4 && square != 5) {
      throw new IllegalArgumentException("no rod has this square");
    }
  }

  private static void needPlace(int x, int y) {
    needWithin(x, 0, WIDTH - 1);
    needWithin(y, 0, TALL - 1);
  }

  private Puppet existing(int puppet) {
    needNumber(puppet, PUPPETS);
    return now.puppetOf(puppet);
  }

  private Puppet jointed(int puppet, int joint) {
    Puppet it = existing(puppet);
    needNumber(joint, it.jointCount);
    return it;
  }

  private Puppet strung(int puppet, int string) {
    Puppet it = existing(puppet);
    needNumber(string, it.stringCount);
    return it;
  }

  private int refuse() {
    refusals++;
    return REFUSED;
  }

  // ---- places and poses as numbers

  // Smaller numbers stand ahead: by x, then by y.
  private static int placeAt(int x, int y) {
    return x * TALL + y;
  }

  private static int xOf(int place) {
    return place / TALL;
  }

  private static int yOf(int place) {
    return place % TALL;
  }

  // A pose is one number, six bits a joint, so that poses are kept and compared without objects.
  private static int placeIn(int pose, int joint) {
    return pose >> 6 * joint & 63;
  }

  private static int withPlace(int pose, int joint, int place) {
    return pose | place << 6 * joint;
  }

  // The lets of all strings are one number, too: four bits a string.
  private static int letIn(int lets, int string) {
    return lets >> 4 * string & 15;
  }

  private static int withLet(int lets, int string, int let) {
    return lets & ~(15 << 4 * string) | let << 4 * string;
  }

  private static int coordinate(int pose, int joint, boolean isX) {
    if (pose == NONE) {
      return NONE;
    }
    return isX ? xOf(placeIn(pose, joint)) : yOf(placeIn(pose, joint));
  }

  private static int squareOfDistance(int a, int b) {
    int dx = xOf(a) - xOf(b);
    int dy = yOf(a) - yOf(b);
    return dx * dx + dy * dy;
  }

  // ---- told poses

  private int poseNow(Puppet it) {
    return finder.told(it, it.letsNow(), 0);
  }

  private int poseAt(Puppet it, int moment) {
    return finder.told(it, it.letsAt(moment), it.tornAt(moment));
  }

  private int poseWithLet(Puppet it, int string, int let) {
    return finder.told(it, withLet(it.letsNow(), string, let), 0);
  }

  private boolean losesPose(Puppet it, int string, int let) {
    return poseNow(it) != NONE && poseWithLet(it, string, let) == NONE;
  }

  private int slackStrings(Puppet it, int told) {
    int slack = 0;
    for (int string = 0; told != NONE && string < it.stringCount; string++) {
      int cut = slack | 1 << string;
      if (finder.told(it, it.letsNow(), cut) == told) {
        slack = cut;
      }
    }
    return slack;
  }

  private int heightCarried(Puppet it, int told, int string) {
    if (told == NONE) {
      return NONE;
    }
    return it.heightIn(told) - it.heightIn(finder.told(it, it.letsNow(), 1 << string));
  }

  private int fallenJoints(Puppet it, int told, int string) {
    if (told == NONE) {
      return NONE;
    }
    int pose = finder.told(it, it.letsNow(), 1 << string);
    int fallen = 0;
    for (int joint = 0; joint < it.jointCount; joint++) {
      if (placeIn(pose, joint) != placeIn(told, joint)) {
        fallen |= 1 << joint;
      }
    }
    return fallen;
  }

  // The rods hang together, so a shadow has no gap: it is told by its first and last x.
  private int countLikeShadow(Puppet it, int shadow) {
    if (shadow == 0) {
      return 0;
    }
    int first = Integer.numberOfTrailingZeros(shadow);
    int last = 31 - Integer.numberOfLeadingZeros(shadow);
    return finder.countWithin(it, first, last) - finder.countWithin(it, first + 1, last)
        - finder.countWithin(it, first, last - 1) + finder.countWithin(it, first + 1, last - 1);
  }

  private int shortestPeriod(Puppet it) {
    for (int moment = 0; moment < MOMENTS; moment++) {
      posesByMoment.set(moment, poseAt(it, moment));
    }
    for (int period = 1; period <= LONGEST_PERIOD; period++) {
      if (comesAgain(period)) {
        return period;
      }
    }
    return NONE;
  }

  private boolean comesAgain(int period) {
    for (int moment = 0; moment + period < MOMENTS; moment++) {
      if (posesByMoment.get(moment) != posesByMoment.get(moment + period)) {
        return false;
      }
    }
    return true;
  }

  private boolean isClash(int pose, int other) {
    if (pose == NONE || other == NONE) {
      return false;
    }
    for (int joint = 0; joint < now.first.jointCount; joint++) {
      for (int second = 0; second < now.second.jointCount; second++) {
        if (placeIn(pose, joint) == placeIn(other, second)) {
          return true;
        }
      }
    }
    return false;
  }

  // ---- ways and stretches

  private int countSteps(int start, int goal) {
    long reached = 1L << start;
    for (int steps = 0; steps < PLACES; steps++) {
      if ((reached >> goal & 1) == 1) {
        return steps;
      }
      reached |= beside(reached) & ~now.things;
    }
    return NONE;
  }

  private static long beside(long places) {
    long up = (places & ~(FLOOR << TALL - 1)) << 1;
    long down = (places & ~FLOOR) >> 1;
    return (up | down | places << TALL | places >> TALL) & STAGE;
  }

  private static boolean rodsMeet(Puppet it, int pose) {
    for (int rod = 2; rod < it.jointCount; rod++) {
      for (int other = 1; other < rod; other++) {
        boolean isApart = !it.isEnd(other, rod) && !it.isEnd(it.parentOf(other), rod);
        if (isApart && meetsRod(it, pose, rod, placeIn(pose, other), placeIn(pose, it.parentOf(other)))) {
          return true;
        }
      }
    }
    return false;
  }

  private static boolean jointsMeetRods(Puppet it, int from, int to) {
    for (int joint = 0; joint < it.jointCount; joint++) {
      int start = placeIn(from, joint);
      int goal = placeIn(to, joint);
      for (int rod = 1; rod < it.jointCount; rod++) {
        if (!it.isEnd(joint, rod) && (meetsRod(it, from, rod, start, goal) || meetsRod(it, to, rod, start, goal))) {
          return true;
        }
      }
    }
    return false;
  }

  private static boolean meetsRod(Puppet it, int pose, int rod, int start, int goal) {
    return meet(placeIn(pose, rod), placeIn(pose, it.parentOf(rod)), start, goal);
  }

  // Holds of points, too: the sides alone do not tell apart what lies in one line, the spans do.
  private static boolean meet(int a, int b, int c, int d) {
    return side(a, b, c) * side(a, b, d) <= 0 && side(c, d, a) * side(c, d, b) <= 0
        && spansMeet(xOf(a), xOf(b), xOf(c), xOf(d)) && spansMeet(yOf(a), yOf(b), yOf(c), yOf(d));
  }

  private static int side(int from, int to, int place) {
    return (xOf(to) - xOf(from)) * (yOf(place) - yOf(from)) - (yOf(to) - yOf(from)) * (xOf(place) - xOf(from));
  }

  private static boolean spansMeet(int a, int b, int c, int d) {
    return Math.max(Math.min(a, b), Math.min(c, d)) <= Math.min(Math.max(a, b), Math.max(c, d));
  }

  // ---- texts

  private String textOfPose(Puppet it, int pose) {
    text.setLength(0);
    if (pose == NONE) {
      return text.append('-').toString();
    }
    for (int joint = 0; joint < it.jointCount; joint++) {
      if (joint > 0) {
        text.append(' ');
      }
      int place = placeIn(pose, joint);
      text.append(xOf(place)).append(',').append(yOf(place));
    }
    return text.toString();
  }

  private String textOfPaper(Paper paper) {
    text.setLength(0);
    for (int i = 0; i < paper.count; i++) {
      int sign = paper.signs.get(i);
      if (sign < COLON) {
        text.append(sign);
      } else {
        text.append(sign == COLON ? ':' : sign == COMMA ? ',' : ';');
      }
    }
    return text.toString();
  }

  private void writeBalance(Puppet it, int pose) {
    text.setLength(0);
    pulls.find(it, pose);
    if (pulls.first == NONE) {
      text.append(pose == NONE || pulls.sum > 0 ? "-" : "");
      return;
    }
    writePull(pulls.first, pulls.firstPull);
    if (pulls.second != NONE) {
      text.append(' ');
      writePull(pulls.second, pulls.secondPull);
    }
  }

  private void writePull(int string, int upper) {
    int common = greatestCommon(upper, pulls.lower);
    if (common <= 0) {
      return;
    }
    text.append(string).append(':').append(upper / common);
    if (pulls.lower != common) {
      text.append('/').append(pulls.lower / common);
    }
  }

  private static int greatestCommon(int a, int b) {
    int common = a;
    int rest = b;
    for (int i = 0; i < 64 && rest != 0; i++) {
      int next = common % rest;
      common = rest;
      rest = next;
    }
    return common;
  }

  // ---- soundness and digest

  private boolean isPuppetSound(Puppet it) {
    int told = poseNow(it);
    if (told != NONE && (!isPose(it, told) || finder.isBeaten(it, told) || !isSlackSound(it, told, slackStrings(it, told)))) {
      return false;
    }
    pulls.find(it, told);
    twin.copyFrom(it);
    twin.turnRound();
    return pulls.isHolding(it, told) && twin.heightIn(poseNow(twin)) == it.heightIn(told) && isPaperSound(it);
  }

  private static boolean isPose(Puppet it, int pose) {
    for (int joint = 0; joint < it.jointCount; joint++) {
      int place = placeIn(pose, joint);
      if (place >= PLACES || !it.canBe(joint, place, it.letsNow(), 0)) {
        return false;
      }
      if (joint > 0 && squareOfDistance(place, placeIn(pose, it.parentOf(joint))) != it.squareOf(joint)) {
        return false;
      }
    }
    return true;
  }

  private boolean isSlackSound(Puppet it, int told, int slack) {
    if (finder.told(it, it.letsNow(), slack) != told) {
      return false;
    }
    for (int string = 0; string < it.stringCount; string++) {
      boolean isSlack = (slack >> string & 1) == 1;
      if (!isSlack && finder.told(it, it.letsNow(), slack | 1 << string) == told) {
        return false;
      }
    }
    return true;
  }

  private boolean isPaperSound(Puppet it) {
    scrap.write(it.keys);
    return scrap.firstFault() == NONE && scrap.keys.isLike(it.keys);
  }

  private long addPuppet(long before, Puppet it) {
    long d = before;
    int told = poseNow(it);
    for (int what = 0; what <= 6; what++) {
      d = d * 31 + it.fact(what);
    }
    d = addJoints(d, it, told);
    d = addStrings(d, it, told);
    d = d * 31 + it.heightIn(told);
    d = d * 31 + slackStrings(it, told);
    d = d * 31 + finder.countWithin(it, 0, WIDTH - 1);
    d = d * 31 + countLikeShadow(it, it.shadowIn(told));
    writeBalance(it, told);
    d = d * 31 + text.length();
    d = d * 31 + it.shadowIn(poseAt(it, 0));
    d = d * 31 + it.shadowIn(poseAt(it, 7));
    d = d * 31 + it.shadowIn(poseAt(it, 15));
    d = d * 31 + shortestPeriod(it);
    scrap.write(it.keys);
    return d * 31 + scrap.count;
  }

  private static long addJoints(long before, Puppet it, int told) {
    long d = before;
    for (int joint = 0; joint < it.jointCount; joint++) {
      for (int what = 0; what <= 4; what++) {
        d = d * 31 + it.jointFact(joint, what);
      }
      d = d * 31 + coordinate(told, joint, true);
      d = d * 31 + coordinate(told, joint, false);
    }
    return d;
  }

  private long addStrings(long before, Puppet it, int told) {
    long d = before;
    for (int string = 0; string < it.stringCount; string++) {
      for (int what = 0; what <= 5; what++) {
        d = d * 31 + it.stringFact(string, what);
      }
      d = d * 31 + heightCarried(it, told, string);
      d = d * 31 + fallenJoints(it, told, string);
    }
    return d;
  }

  /** Numbers in a row. Every index is looked at here, so that none ever stands beside the row. */
  private static final class Row {
    private final int[] cells;

    Row(int length, int filling) {
      cells = new int[length > 0 ? length : 0];
      for (int i = 0; i < cells.length; i++) {
        cells[i] = filling;
      }
    }

    int get(int i) {
      return i >= 0 && i < cells.length ? cells[i] : 0;
    }

    void set(int i, int number) {
      if (i >= 0 && i < cells.length) {
        cells[i] = number;
      }
    }

    void fill(int number) {
      for (int i = 0; i < cells.length; i++) {
        cells[i] = number;
      }
    }

    void copyFrom(Row other) {
      for (int i = 0; i < cells.length; i++) {
        cells[i] = other.get(i);
      }
    }

    boolean isLike(Row other) {
      for (int i = 0; i < cells.length; i++) {
        if (cells[i] != other.get(i)) {
          return false;
        }
      }
      return true;
    }
  }

  /** A puppet: joints and strings (some numbers each, in the order that ofJoint() and ofString() tell), cross, table. */
  private static final class Puppet {
    private static final int JOINT_FACTS = 3;
    private static final int STRING_FACTS = 4;

    private final Row joints = new Row(JOINTS * JOINT_FACTS, 0);
    private final Row strings = new Row(STRINGS * STRING_FACTS, 0);
    /** By moments the lets of the key there, NONE without one. */
    private final Row keys = new Row(MOMENTS, NONE);
    private int jointCount = 0;
    private int stringCount = 0;
    private int crossX;
    private int crossTilt = 0;
    private int player;

    Puppet(int x, int itsPlayer) {
      crossX = x;
      player = itsPlayer;
      addJoint(NONE, 0, 1);
    }

    void copyFrom(Puppet other) {
      joints.copyFrom(other.joints);
      strings.copyFrom(other.strings);
      keys.copyFrom(other.keys);
      jointCount = other.jointCount;
      stringCount = other.stringCount;
      crossX = other.crossX;
      crossTilt = other.crossTilt;
      player = other.player;
    }

    int addJoint(int parent, int square, int weight) {
      int joint = jointCount;
      joints.set(joint * JOINT_FACTS, parent);
      joints.set(joint * JOINT_FACTS + 1, square);
      joints.set(joint * JOINT_FACTS + 2, weight);
      jointCount++;
      return joint;
    }

    void removeJoint() {
      jointCount--;
      for (int string = stringCount - 1; string >= 0; string--) {
        if (jointOf(string) == jointCount) {
          removeString(string);
        }
      }
    }

    int addString(int peg, int joint, int let) {
      int string = stringCount;
      strings.set(string * STRING_FACTS, peg);
      strings.set(string * STRING_FACTS + 1, joint);
      strings.set(string * STRING_FACTS + 2, let);
      strings.set(string * STRING_FACTS + 3, NONE);
      stringCount++;
      return string;
    }

    void removeString(int string) {
      stringCount--;
      for (int i = string * STRING_FACTS; i < stringCount * STRING_FACTS; i++) {
        strings.set(i, strings.get(i + STRING_FACTS));
      }
    }

    /** Turns into its mirror image. */
    void turnRound() {
      crossX = WIDTH - 1 - crossX;
      crossTilt = -crossTilt;
      for (int string = 0; string < stringCount; string++) {
        strings.set(string * STRING_FACTS, PEGS - 1 - strings.get(string * STRING_FACTS));
      }
    }

    int parentOf(int joint) {
      return joints.get(joint * JOINT_FACTS);
    }

    int squareOf(int joint) {
      return joints.get(joint * JOINT_FACTS + 1);
    }

    int weightOf(int joint) {
      return joints.get(joint * JOINT_FACTS + 2);
    }

    void setWeight(int joint, int weight) {
      joints.set(joint * JOINT_FACTS + 2, weight);
    }

    int jointOf(int string) {
      return strings.get(string * STRING_FACTS + 1);
    }

    int letOf(int string) {
      return strings.get(string * STRING_FACTS + 2);
    }

    void setLet(int string, int let) {
      strings.set(string * STRING_FACTS + 2, let);
    }

    int tearOf(int string) {
      return strings.get(string * STRING_FACTS + 3);
    }

    void setTear(int string, int moment) {
      strings.set(string * STRING_FACTS + 3, moment);
    }

    int pegX(int string) {
      return crossX + strings.get(string * STRING_FACTS) - 2;
    }

    int pegY(int string) {
      return 7 + crossTilt * (strings.get(string * STRING_FACTS) - 2);
    }

    int jointFact(int joint, int what) {
      return what < JOINT_FACTS ? joints.get(joint * JOINT_FACTS + what) : what == 3 ? stringsOn(joint) : rodsAt(joint);
    }

    int stringFact(int string, int what) {
      return what < STRING_FACTS ? strings.get(string * STRING_FACTS + what) : what == 4 ? pegX(string) : pegY(string);
    }

    int fact(int what) {
      switch (what) {
        case 0:
          return jointCount;
        case 1:
          return stringCount;
        case 2:
          return crossX;
        case 3:
          return crossTilt;
        case 4:
          return keyCount();
        case 5:
          return player;
        default:
          return weights();
      }
    }

    private int stringsOn(int joint) {
      int on = 0;
      for (int string = 0; string < stringCount; string++) {
        if (jointOf(string) == joint) {
          on |= 1 << string;
        }
      }
      return on;
    }

    private int rodsAt(int joint) {
      int rods = 0;
      for (int rod = 1; rod < jointCount; rod++) {
        if (isEnd(joint, rod)) {
          rods++;
        }
      }
      return rods;
    }

    /** Whether the joint is an end of the rod, which has the number of its lower joint. */
    boolean isEnd(int joint, int rod) {
      return joint == rod || joint == parentOf(rod);
    }

    int weights() {
      int sum = 0;
      for (int joint = 0; joint < jointCount; joint++) {
        sum += weightOf(joint);
      }
      return sum;
    }

    int keyCount() {
      int count = 0;
      for (int moment = 0; moment < MOMENTS; moment++) {
        if (keys.get(moment) != NONE) {
          count++;
        }
      }
      return count;
    }

    int letsNow() {
      int lets = 0;
      for (int string = 0; string < stringCount; string++) {
        lets = withLet(lets, string, letOf(string));
      }
      return lets;
    }

    int letsAt(int moment) {
      int ahead = keyFrom(moment, -1);
      int behind = keyFrom(moment, 1);
      if (ahead == NONE && behind == NONE) {
        return letsNow();
      }
      if (ahead == NONE || behind == NONE || ahead >= behind) {
        return keys.get(ahead == NONE ? behind : ahead);
      }
      int lets = 0;
      for (int string = 0; string < STRINGS; string++) {
        int from = letIn(keys.get(ahead), string);
        int to = letIn(keys.get(behind), string);
        lets = withLet(lets, string, from + Math.floorDiv((to - from) * (moment - ahead), behind - ahead));
      }
      return lets;
    }

    /** The nearest moment with a key, from this one on, back (-1) or forth (1). */
    private int keyFrom(int moment, int step) {
      int looked = moment;
      for (int i = 0; i < MOMENTS && looked >= 0 && looked < MOMENTS; i++) {
        if (keys.get(looked) != NONE) {
          return looked;
        }
        looked += step;
      }
      return NONE;
    }

    int tornAt(int moment) {
      int torn = 0;
      for (int string = 0; string < stringCount; string++) {
        if (tearOf(string) != NONE && tearOf(string) <= moment) {
          torn |= 1 << string;
        }
      }
      return torn;
    }

    /** Whether the strings, but those that are cut, let the joint be there. */
    boolean canBe(int joint, int place, int lets, int cut) {
      for (int string = 0; string < stringCount; string++) {
        if (jointOf(string) == joint && (cut >> string & 1) == 0) {
          int dx = pegX(string) - xOf(place);
          int dy = pegY(string) - yOf(place);
          int let = letIn(lets, string);
          if (dx * dx + dy * dy > let * let) {
            return false;
          }
        }
      }
      return true;
    }

    int heightIn(int pose) {
      if (pose == NONE) {
        return NONE;
      }
      int height = 0;
      for (int joint = 0; joint < jointCount; joint++) {
        height += weightOf(joint) * yOf(placeIn(pose, joint));
      }
      return height;
    }

    int shadowIn(int pose) {
      if (pose == NONE) {
        return 0;
      }
      int shadow = 1 << xOf(placeIn(pose, 0));
      for (int joint = 1; joint < jointCount; joint++) {
        int x = xOf(placeIn(pose, joint));
        int other = xOf(placeIn(pose, parentOf(joint)));
        for (int dark = Math.min(x, other); dark <= Math.max(x, other); dark++) {
          shadow |= 1 << dark;
        }
      }
      return shadow;
    }
  }

  /** The row of exchanges: each is twice its k, and 1 more if it goes over. */
  private static final class Strands {
    private final Row exchanges = new Row(MOST_ROW, 0);
    private final Row order = new Row(STRANDS, 0);
    private int count = 0;

    void copyFrom(Strands other) {
      exchanges.copyFrom(other.exchanges);
      count = other.count;
    }

    private boolean takesBack(int exchange) {
      return count > 0 && exchanges.get(count - 1) == (exchange ^ 1);
    }

    boolean hasRoomFor(int exchange) {
      return count < MOST_ROW || takesBack(exchange);
    }

    void add(int exchange) {
      if (takesBack(exchange)) {
        count--;
      } else {
        exchanges.set(count, exchange);
        count++;
      }
    }

    /** Makes the order that the row leaves. */
    void layOut() {
      for (int place = 0; place < STRANDS; place++) {
        order.set(place, place);
      }
      for (int i = 0; i < count; i++) {
        swap(exchanges.get(i) / 2);
      }
    }

    private void swap(int k) {
      int strand = order.get(k);
      order.set(k, order.get(k + 1));
      order.set(k + 1, strand);
    }

    boolean isTakenBack() {
      layOut();
      for (int i = count - 1; i >= 0; i--) {
        swap(exchanges.get(i) / 2);
      }
      for (int place = 0; place < STRANDS; place++) {
        if (order.get(place) != place) {
          return false;
        }
      }
      return true;
    }
  }

  /** All that a step back brings back. */
  private static final class State {
    private final Puppet first = new Puppet(2, 0);
    private final Puppet second = new Puppet(5, 1);
    private final Strands strands = new Strands();
    /** The places with a thing, a bit each. */
    private long things = 0;

    Puppet puppetOf(int number) {
      return number == 0 ? first : second;
    }

    void copyFrom(State other) {
      first.copyFrom(other.first);
      second.copyFrom(other.second);
      strands.copyFrom(other.strands);
      things = other.things;
    }
  }

  /** What was ahead of the last steps, in a ring that is used again and again. */
  private static final class Past {
    private final State[] states = new State[STEPS];
    private int count = 0;
    private int next = 0;

    Past() {
      for (int i = 0; i < states.length; i++) {
        states[i] = new State();
      }
    }

    void keep(State now) {
      if (next >= 0 && next < states.length && states[next] != null) {
        states[next].copyFrom(now);
      }
      next = (next + 1) % STEPS;
      count = Math.min(count + 1, STEPS);
    }

    void restore(State now) {
      next = (next + STEPS - 1) % STEPS;
      count--;
      if (next >= 0 && next < states.length && states[next] != null) {
        now.copyFrom(states[next]);
      }
    }
  }

  /** Signs, and the table that they tell. */
  private static final class Paper {
    /** What a sign stands behind: 0 a key, 1 and 2 digits of a moment, 3 to 7 a colon, a let or a comma, 8 the last let. */
    private static final int BEHIND_LAST_LET = 8;

    private final Row signs;
    private final Row keys = new Row(MOMENTS, NONE);
    private int count = 0;

    Paper(int most) {
      signs = new Row(most, 0);
    }

    void add(int sign) {
      signs.set(count, sign);
      count++;
    }

    void write(Row table) {
      count = 0;
      for (int moment = 0; moment < MOMENTS; moment++) {
        if (table.get(moment) != NONE) {
          writeKey(moment, table.get(moment));
        }
      }
    }

    private void writeKey(int moment, int lets) {
      if (moment >= 10) {
        add(moment / 10);
      }
      add(moment % 10);
      for (int string = 0; string < STRINGS; string++) {
        add(string == 0 ? COLON : COMMA);
        add(letIn(lets, string));
      }
      add(SEMICOLON);
    }

    /** Where the first fault is; without one, keys holds the table then. */
    int firstFault() {
      keys.fill(NONE);
      int spot = 0;
      int last = NONE;
      int moment = 0;
      int lets = 0;
      for (int i = 0; i < count; i++) {
        int sign = signs.get(i);
        if (!canStand(sign, spot, moment, last)) {
          return i;
        }
        if (sign == COLON) {
          last = moment;
        } else if (sign == SEMICOLON) {
          keys.set(moment, lets);
        } else if (spot <= 1) {
          moment = spot == 0 ? sign : 10 * moment + sign;
        } else if (sign != COMMA) {
          lets = withLet(lets, (spot - 3) / 2, sign);
        }
        spot = spotBehind(spot, sign);
      }
      return spot == 0 ? NONE : count;
    }

    private static boolean canStand(int sign, int spot, int moment, int last) {
      switch (spot) {
        case 1:
          return sign == COLON ? moment > last : moment == 1 && sign <= 5;
        case 2:
          return sign == COLON && moment > last;
        case 4:
        case 6:
          return sign == COMMA;
        case BEHIND_LAST_LET:
          return sign == SEMICOLON;
        default:
          return sign < COLON;
      }
    }

    private static int spotBehind(int spot, int sign) {
      if (sign == COLON) {
        return 3;
      }
      return spot == BEHIND_LAST_LET ? 0 : spot + 1;
    }
  }

  /** The told balance: pulls of one string or two, both over the same lower number. */
  private static final class Pulls {
    private int first = NONE;
    private int second = NONE;
    private int firstPull = 0;
    private int secondPull = 0;
    private int lower = 1;
    private int sum = 0;

    void find(Puppet it, int pose) {
      first = NONE;
      second = NONE;
      sum = it.weights();
      if (pose != NONE && sum > 0 && !findOne(it, pose)) {
        findTwo(it, pose);
      }
    }

    private boolean findOne(Puppet it, int pose) {
      for (int string = 0; string < it.stringCount; string++) {
        int dy = upwards(it, pose, string);
        if (sideways(it, pose, string) == 0 && dy > 0) {
          first = string;
          firstPull = sum;
          lower = dy;
          return true;
        }
      }
      return false;
    }

    private void findTwo(Puppet it, int pose) {
      for (int one = 0; one < it.stringCount; one++) {
        for (int two = one + 1; two < it.stringCount; two++) {
          int dx = sideways(it, pose, one);
          int otherDx = sideways(it, pose, two);
          int up = Math.abs(otherDx) * upwards(it, pose, one) + Math.abs(dx) * upwards(it, pose, two);
          if (first == NONE && dx * otherDx < 0 && up > 0) {
            first = one;
            second = two;
            firstPull = sum * Math.abs(otherDx);
            secondPull = sum * Math.abs(dx);
            lower = up;
          }
        }
      }
    }

    boolean isHolding(Puppet it, int pose) {
      if (first == NONE) {
        return true;
      }
      int aside = firstPull * sideways(it, pose, first);
      int up = firstPull * upwards(it, pose, first);
      if (second != NONE) {
        aside += secondPull * sideways(it, pose, second);
        up += secondPull * upwards(it, pose, second);
      }
      return aside == 0 && up == sum * lower;
    }

    private static int sideways(Puppet it, int pose, int string) {
      return it.pegX(string) - xOf(placeIn(pose, it.jointOf(string)));
    }

    private static int upwards(Puppet it, int pose, int string) {
      return it.pegY(string) - yOf(placeIn(pose, it.jointOf(string)));
    }
  }

  /**
   * Finds and counts poses. Rods make a tree, and a string holds one joint: so what hangs on a joint depends on that joint's
   * place alone, and is reckoned place by place, from the youngest joint to the eldest.
   */
  private static final class Finder {
    private static final int MOST_SQUARE = 5;
    private static final int MOST_ENDS = 8;

    /** By square and place how many places the other end of such a rod can have, and which, by rising numbers. */
    private final Row endCounts = new Row((MOST_SQUARE + 1) * PLACES, 0);
    private final Row ends = new Row((MOST_SQUARE + 1) * PLACES * MOST_ENDS, NONE);
    /** By joint and place the least height of that joint and all that hangs on it; NONE if it can not be there. */
    private final Row leasts = new Row(JOINTS * PLACES, NONE);
    /** By joint and place in how many ways it can be there, with all that hangs on it. */
    private final Row ways = new Row(JOINTS * PLACES, 0);

    Finder() {
      for (int place = 0; place < PLACES; place++) {
        for (int dx = -2; dx <= 2; dx++) {
          for (int dy = -2; dy <= 2; dy++) {
            addEnd(place, dx, dy);
          }
        }
      }
    }

    private void addEnd(int place, int dx, int dy) {
      int x = xOf(place) + dx;
      int y = yOf(place) + dy;
      int square = dx * dx + dy * dy;
      if (x < 0 || x >= WIDTH || y < 0 || y >= TALL || square == 0 || square > MOST_SQUARE) {
        return;
      }
      int at = square * PLACES + place;
      ends.set(at * MOST_ENDS + endCounts.get(at), placeAt(x, y));
      endCounts.set(at, endCounts.get(at) + 1);
    }

    /** The told pose with these lets, without the strings that are cut; NONE without one. */
    int told(Puppet it, int lets, int cut) {
      for (int joint = it.jointCount - 1; joint >= 0; joint--) {
        for (int place = 0; place < PLACES; place++) {
          int least = it.canBe(joint, place, lets, cut) ? leastFrom(it, joint, place) : NONE;
          leasts.set(joint * PLACES + place, least);
        }
      }
      int first = bestOfAll();
      int pose = first;
      for (int joint = 1; first != NONE && joint < it.jointCount; joint++) {
        int best = bestEnd(joint, placeIn(pose, it.parentOf(joint)), it.squareOf(joint));
        pose = withPlace(pose, joint, Math.max(best, 0));
      }
      return pose;
    }

    private int leastFrom(Puppet it, int joint, int place) {
      int sum = it.weightOf(joint) * yOf(place);
      for (int child = joint + 1; child < it.jointCount; child++) {
        if (it.parentOf(child) == joint) {
          int best = bestEnd(child, place, it.squareOf(child));
          if (best == NONE) {
            return NONE;
          }
          sum += leasts.get(child * PLACES + best);
        }
      }
      return sum;
    }

    private int bestEnd(int joint, int from, int square) {
      int at = square * PLACES + from;
      int best = NONE;
      int least = 0;
      int count = endCounts.get(at);
      for (int i = 0; i < count; i++) {
        int place = ends.get(at * MOST_ENDS + i);
        int height = leasts.get(joint * PLACES + place);
        if (height != NONE && (best == NONE || height < least)) {
          best = place;
          least = height;
        }
      }
      return best;
    }

    private int bestOfAll() {
      int best = NONE;
      for (int place = 0; place < PLACES; place++) {
        int height = leasts.get(place);
        if (height != NONE && (best == NONE || height < leasts.get(best))) {
          best = place;
        }
      }
      return best;
    }

    /** How many poses have all their joints there from one x to the other. */
    int countWithin(Puppet it, int firstX, int lastX) {
      int lets = it.letsNow();
      for (int joint = it.jointCount - 1; joint >= 0; joint--) {
        for (int place = 0; place < PLACES; place++) {
          boolean isIn = xOf(place) >= firstX && xOf(place) <= lastX && it.canBe(joint, place, lets, 0);
          ways.set(joint * PLACES + place, isIn ? waysFrom(it, joint, place) : 0);
        }
      }
      int count = 0;
      for (int place = 0; place < PLACES; place++) {
        count += ways.get(place);
      }
      return count;
    }

    private int waysFrom(Puppet it, int joint, int place) {
      int product = 1;
      for (int child = joint + 1; child < it.jointCount; child++) {
        if (it.parentOf(child) == joint) {
          product *= waysOfEnds(child, place, it.squareOf(child));
        }
      }
      return product;
    }

    private int waysOfEnds(int joint, int from, int square) {
      int at = square * PLACES + from;
      int sum = 0;
      int count = endCounts.get(at);
      for (int i = 0; i < count; i++) {
        sum += ways.get(joint * PLACES + ends.get(at * MOST_ENDS + i));
      }
      return sum;
    }

    /** Whether a pose goes ahead of the told one: looked at pose by pose, not the way that it was found. */
    boolean isBeaten(Puppet it, int told) {
      int most = it.heightIn(told);
      for (int place = 0; place < PLACES; place++) {
        if (isBeatenFrom(this, it, told, most, 0, place, it.weightOf(0) * yOf(place))) {
          return true;
        }
      }
      return false;
    }

    /** Whether one does that has the places of this pose up to this joint; most is the height of the told one. */
    private static boolean isBeatenFrom(Finder finder, Puppet it, int told, int most, int joint, int pose, int height) {
      if (joint >= JOINTS || height > most || !it.canBe(joint, placeIn(pose, joint), it.letsNow(), 0)) {
        return false;
      }
      int order = height < most ? -1 : compare(pose, told, joint);
      int next = joint + 1;
      if (order > 0 || next >= it.jointCount) {
        return order < 0;
      }
      int at = it.squareOf(next) * PLACES + placeIn(pose, it.parentOf(next));
      int count = finder.endCounts.get(at);
      for (int i = 0; i < count; i++) {
        int place = finder.ends.get(at * MOST_ENDS + i);
        int sum = height + it.weightOf(next) * yOf(place);
        if (isBeatenFrom(finder, it, told, most, next, withPlace(pose, next, place), sum)) {
          return true;
        }
      }
      return false;
    }

    /** Which stands ahead, by the places up to this joint: below 0 the one, above 0 the other. */
    private static int compare(int pose, int other, int lastJoint) {
      for (int joint = 0; joint <= lastJoint; joint++) {
        int order = placeIn(pose, joint) - placeIn(other, joint);
        if (order != 0) {
          return order;
        }
      }
      return 0;
    }
  }
}
