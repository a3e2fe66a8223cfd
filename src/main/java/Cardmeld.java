import java.util.NoSuchElementException;

/**
 * A compiler of address books: cards from several sources are scored against one another, merged into persons and
 * taken apart again. Sets of cards are held as the bits of an int, the card with the number n as the bit n, so that
 * no call makes an array or an object but the exception that it throws.
 */
public final class Cardmeld {
    private static final int MAX_SOURCES = 4;
    private static final int MAX_CARDS = 16;
    private static final int MAX_LETTERS = 10;
    private static final int MAX_SOUND = 4;
    private static final int MAX_MERGES = 30;
    private static final int MAX_FORBIDDEN = 12;
    private static final int GROUPS = 4;
    private static final int FIELDS = 4;
    private static final int NAME = 0;
    private static final int PHONE = 1;
    private static final int MAILBOX = 2;
    private static final int NONE = -1;

    private final int[] ranks = new int[MAX_SOURCES];
    private int sourceCount;
    private final Card[] book = new Card[MAX_CARDS];
    private int cardCount;
    private final int[] sameWeights = {4, 5, 6, 1};
    private final int[] anotherWeights = {-2, -3, -1, -1};
    private int threshold = 5;
    private final Relation forbidden = new Relation();
    private int forbiddenPairs;
    private final Merges merges = new Merges();
    private final int[] groups = new int[GROUPS];
    private final Name query = new Name();
    private final Best best = new Best();
    private final Buckets buckets = new Buckets();
    private final int[] mates = new int[MAX_CARDS];

    public Cardmeld() {
        for (int card = 0; card < MAX_CARDS; card++) {
            book[card] = new Card();
        }
    }

    // Sources and cards

    public int addSource(int rank) throws IllegalArgumentException, IllegalStateException {
        requireRank(rank);
        if (sourceCount >= MAX_SOURCES) {
            throw new IllegalStateException("there are 4 sources");
        }
        ranks[sourceCount] = rank;
        sourceCount++;
        return sourceCount - 1;
    }

    public int setRank(int source, int rank) throws IndexOutOfBoundsException, IllegalArgumentException {
        requireSource(source);
        requireRank(rank);
        int before = ranks[source];
        ranks[source] = rank;
        return before;
    }

    public int addCard(int source) throws IndexOutOfBoundsException, IllegalStateException {
        requireSource(source);
        if (cardCount >= MAX_CARDS) {
            throw new IllegalStateException("there are 16 cards");
        }
        book[cardCount].source = source;
        cardCount++;
        return cardCount - 1;
    }

    public int cards() {
        return cardCount;
    }

    public int letter(int card, char letter)
            throws IndexOutOfBoundsException, IllegalArgumentException, IllegalStateException {
        requireCard(card);
        requireLetter(letter);
        return appendTo(book[card].name, letter);
    }

    public int clearName(int card) throws IndexOutOfBoundsException {
        requireCard(card);
        return book[card].name.empty();
    }

    public int setNumber(int card, int field, int value) throws IndexOutOfBoundsException, IllegalArgumentException {
        requireCard(card);
        requireNumberField(field);
        if (value < NONE || value > 999) {
            throw new IllegalArgumentException("the number is not between -1 and 999");
        }
        int before = book[card].numbers[field];
        book[card].numbers[field] = value;
        return before;
    }

    public int nameLength(int card) throws IndexOutOfBoundsException {
        requireCard(card);
        return book[card].name.length;
    }

    public char nameAt(int card, int index) throws IndexOutOfBoundsException, NoSuchElementException {
        requireCard(card);
        Name name = book[card].name;
        if (index < 0 || index >= name.length) {
            throw new NoSuchElementException("no such letter");
        }
        return name.letters[index];
    }

    public char soundAt(int card, int index) throws IndexOutOfBoundsException, NoSuchElementException {
        requireCard(card);
        Name name = book[card].name;
        if (index < 0 || index >= name.soundLength) {
            throw new NoSuchElementException("no such sign of the sound");
        }
        return name.sound[index];
    }

    public int number(int card, int field) throws IndexOutOfBoundsException, IllegalArgumentException {
        requireCard(card);
        requireNumberField(field);
        return book[card].numbers[field];
    }

    // Scores and candidates

    public int setWeights(int field, int same, int another) throws IllegalArgumentException {
        requireField(field);
        requireWeight(same);
        requireWeight(another);
        int before = sameWeights[field];
        sameWeights[field] = same;
        anotherWeights[field] = another;
        return before;
    }

    public int setThreshold(int threshold) throws IllegalArgumentException {
        if (threshold < -40 || threshold > 40) {
            throw new IllegalArgumentException("the threshold is not between -40 and 40");
        }
        int before = this.threshold;
        this.threshold = threshold;
        return before;
    }

    public int score(int card, int other) throws IndexOutOfBoundsException, IllegalArgumentException {
        requireCards(card, other);
        requireTwo(card, other);
        return scoreOf(card, other);
    }

    public int candidates() {
        int pairs = 0;
        for (int one = 0; one < cardCount; one++) {
            for (int other = one + 1; other < cardCount; other++) {
                if (sharesKey(one, other) && scoreOf(one, other) >= threshold && canBeMerged(one, other)) {
                    pairs++;
                }
            }
        }
        return pairs;
    }

    public int bestScore() throws NoSuchElementException {
        findBestByKeys();
        requireBest();
        return best.points;
    }

    public int bestScoreByPairs() throws NoSuchElementException {
        findBestByPairs();
        requireBest();
        return best.points;
    }

    public int bestOne() throws NoSuchElementException {
        findBestByKeys();
        requireBest();
        return best.one;
    }

    public int bestOther() throws NoSuchElementException {
        findBestByKeys();
        requireBest();
        return best.other;
    }

    // Merges

    public int forbid(int card, int other) throws IndexOutOfBoundsException, IllegalArgumentException,
            UnsupportedOperationException, IllegalStateException {
        requireCards(card, other);
        requireTwo(card, other);
        if (isOnePerson(card, other)) {
            throw new UnsupportedOperationException("the cards are one person");
        }
        if (forbidden.holds(card, other) || forbiddenPairs >= MAX_FORBIDDEN) {
            throw new IllegalStateException("the cards are forbidden, or there are 12 pairs");
        }
        forbidden.tie(card, other);
        forbiddenPairs++;
        return forbiddenPairs;
    }

    public int allow(int card, int other) throws IndexOutOfBoundsException, NoSuchElementException {
        requireCards(card, other);
        if (!forbidden.holds(card, other)) {
            throw new NoSuchElementException("the cards are not forbidden");
        }
        forbidden.cut(card, other);
        forbiddenPairs--;
        return forbiddenPairs;
    }

    public char why(int card, int other) throws IndexOutOfBoundsException {
        requireCards(card, other);
        if (isOnePerson(card, other)) {
            return 't';
        }
        if (forbidden.holds(card, other)) {
            return 'd';
        }
        return barsBetween(card, other) != 0 ? 'i' : '-';
    }

    public int barOne(int card, int other) throws IndexOutOfBoundsException, NoSuchElementException {
        requireCards(card, other);
        int bars = barsBetween(card, other);
        requireBars(bars);
        return lowestOf(bars);
    }

    public int barOther(int card, int other) throws IndexOutOfBoundsException, NoSuchElementException {
        requireCards(card, other);
        int bars = barsBetween(card, other);
        requireBars(bars);
        int lowestBar = bars & -bars;
        return lowestOf(forbidden.partnersOfAll(lowestBar) & merges.joinedWith(other));
    }

    public int merge(int card, int other)
            throws IndexOutOfBoundsException, UnsupportedOperationException, IllegalStateException {
        requireCards(card, other);
        if (barsBetween(card, other) != 0) {
            throw new UnsupportedOperationException("the persons are barred from one another");
        }
        if (isOnePerson(card, other) || merges.isFull()) {
            throw new IllegalStateException("the cards are one person, or there are 30 merges");
        }
        return merges.make(card, other);
    }

    public int mergeBest() throws NoSuchElementException, IllegalStateException {
        findBestByKeys();
        requireBest();
        if (merges.isFull()) {
            throw new IllegalStateException("there are 30 merges");
        }
        return merges.make(best.one, best.other);
    }

    public int undo(int merge) throws IndexOutOfBoundsException, IllegalStateException {
        requireMerge(merge);
        if (!merges.standing[merge]) {
            throw new IllegalStateException("the merge does not stand");
        }
        merges.takeBack(merge);
        return Integer.bitCount(personsWith(allCards()));
    }

    public boolean stands(int merge) throws IndexOutOfBoundsException {
        requireMerge(merge);
        return merges.standing[merge];
    }

    public int steps(int card, int other) throws IndexOutOfBoundsException, NoSuchElementException {
        requireCards(card, other);
        int distance = merges.distance(card, other);
        if (distance == NONE) {
            throw new NoSuchElementException("the cards are not one person");
        }
        return distance;
    }

    // Persons

    public int person(int card) throws IndexOutOfBoundsException {
        requireCard(card);
        return lowestOf(merges.joinedWith(card));
    }

    public int personByRounds(int card) throws IndexOutOfBoundsException {
        requireCard(card);
        merges.labelByRounds();
        return merges.labels[card];
    }

    public int persons() {
        return Integer.bitCount(personsWith(allCards()));
    }

    public int size(int card) throws IndexOutOfBoundsException {
        requireCard(card);
        return Integer.bitCount(merges.joinedWith(card));
    }

    public int fieldFrom(int card, int field)
            throws IndexOutOfBoundsException, IllegalArgumentException, NoSuchElementException {
        requireCard(card);
        requireField(field);
        int from = highestRanked(merges.joinedWith(card), field);
        if (from == NONE) {
            throw new NoSuchElementException("no card of the person has the field");
        }
        return from;
    }

    public int conflicts(int card) throws IndexOutOfBoundsException {
        requireCard(card);
        int members = merges.joinedWith(card);
        int fields = 0;
        for (int field = 0; field < FIELDS; field++) {
            if (disagree(members, field)) {
                fields++;
            }
        }
        return fields;
    }

    // Groups and search

    public int join(int group, int card) throws IndexOutOfBoundsException, IllegalStateException {
        requireGroup(group);
        requireCard(card);
        if (contains(groups[group], card)) {
            throw new IllegalStateException("the card is in the group");
        }
        groups[group] |= 1 << card;
        return Integer.bitCount(groups[group]);
    }

    public int leave(int group, int card) throws IndexOutOfBoundsException, NoSuchElementException {
        requireGroup(group);
        requireCard(card);
        if (!contains(groups[group], card)) {
            throw new NoSuchElementException("the card is not in the group");
        }
        groups[group] &= ~(1 << card);
        return Integer.bitCount(groups[group]);
    }

    public boolean isIn(int group, int card) throws IndexOutOfBoundsException {
        requireGroup(group);
        requireCard(card);
        return (groups[group] & merges.joinedWith(card)) != 0;
    }

    public int personsIn(int group) throws IndexOutOfBoundsException {
        requireGroup(group);
        return Integer.bitCount(personsWith(groups[group]));
    }

    public int type(char letter) throws IllegalArgumentException, IllegalStateException {
        requireLetter(letter);
        return appendTo(query, letter);
    }

    public int clearQuery() {
        return query.empty();
    }

    public int found(boolean bySound) {
        return Integer.bitCount(personsWith(matches(bySound)));
    }

    public int foundAt(boolean bySound, int rank) throws NoSuchElementException {
        int persons = personsWith(matches(bySound));
        if (rank < 0 || rank >= Integer.bitCount(persons)) {
            throw new NoSuchElementException("no such rank");
        }
        for (int ahead = 0; ahead < rank; ahead++) {
            persons &= persons - 1;
        }
        return lowestOf(persons);
    }

    public float mergedShare() throws NoSuchElementException {
        if (cardCount == 0) {
            throw new NoSuchElementException("there is no card");
        }
        int merged = 0;
        for (int card = 0; card < cardCount; card++) {
            if (Integer.bitCount(merges.joinedWith(card)) > 1) {
                merged++;
            }
        }
        return (float) merged / (float) cardCount;
    }

    // Checks of arguments

    private void requireRank(int rank) {
        if (rank < 1 || rank > 9) {
            throw new IllegalArgumentException("the rank is not between 1 and 9");
        }
    }

    private void requireSource(int source) {
        if (source < 0 || source >= sourceCount) {
            throw new IndexOutOfBoundsException("no such source");
        }
    }

    private void requireCard(int card) {
        if (card < 0 || card >= cardCount) {
            throw new IndexOutOfBoundsException("no such card");
        }
    }

    private void requireCards(int card, int other) {
        requireCard(card);
        requireCard(other);
    }

    private void requireTwo(int card, int other) {
        if (card == other) {
            throw new IllegalArgumentException("both cards are the same");
        }
    }

    private void requireLetter(char letter) {
        if (letter < 'a' || letter > 'z') {
            throw new IllegalArgumentException("not a letter from 'a' to 'z'");
        }
    }

    private void requireField(int field) {
        if (field < 0 || field >= FIELDS) {
            throw new IllegalArgumentException("the field is not between 0 and 3");
        }
    }

    private void requireNumberField(int field) {
        if (field < PHONE || field >= FIELDS) {
            throw new IllegalArgumentException("the field is not between 1 and 3");
        }
    }

    private void requireWeight(int weight) {
        if (weight < -9 || weight > 9) {
            throw new IllegalArgumentException("the weight is not between -9 and 9");
        }
    }

    private void requireMerge(int merge) {
        if (merge < 0 || merge >= merges.count) {
            throw new IndexOutOfBoundsException("no such merge");
        }
    }

    private void requireGroup(int group) {
        if (group < 0 || group >= GROUPS) {
            throw new IndexOutOfBoundsException("no such group");
        }
    }

    private void requireBest() {
        if (best.isMissing()) {
            throw new NoSuchElementException("there are no candidates");
        }
    }

    private void requireBars(int bars) {
        if (bars == 0) {
            throw new NoSuchElementException("the persons are not barred from one another");
        }
    }

    // Names

    private int appendTo(Name name, char letter) {
        if (name.length >= MAX_LETTERS) {
            throw new IllegalStateException("there are 10 letters");
        }
        name.append(letter);
        return name.length;
    }

    // Scores

    private int scoreOf(int one, int other) {
        int sum = 0;
        for (int field = 0; field < FIELDS; field++) {
            sum += fieldScore(book[one], book[other], field);
        }
        return sum;
    }

    private int fieldScore(Card one, Card other, int field) {
        if (!one.has(field) || !other.has(field)) {
            return 0;
        }
        if (one.agrees(other, field)) {
            return sameWeights[field];
        }
        if (field == NAME && one.name.soundsLike(other.name)) {
            // Not a plain division: half of -9 is due to be -5.
            return Math.floorDiv(sameWeights[NAME], 2);
        }
        return anotherWeights[field];
    }

    // Candidates

    private boolean sharesKey(int one, int other) {
        return sharesNumber(one, other, PHONE) || sharesNumber(one, other, MAILBOX)
                || book[one].name.soundsLike(book[other].name);
    }

    private boolean sharesNumber(int one, int other, int field) {
        return book[one].has(field) && book[one].agrees(book[other], field);
    }

    private boolean canBeMerged(int one, int other) {
        int members = merges.joinedWith(one);
        int others = merges.joinedWith(other);
        return (members & others) == 0 && (forbidden.partnersOfAll(members) & others) == 0;
    }

    private void findBestByPairs() {
        best.forget();
        for (int one = 0; one < cardCount; one++) {
            for (int other = one + 1; other < cardCount; other++) {
                if (sharesKey(one, other)) {
                    offer(one, other);
                }
            }
        }
    }

    private void findBestByKeys() {
        best.forget();
        gatherMates();
        for (int one = 0; one < cardCount; one++) {
            for (int other = one + 1; other < cardCount; other++) {
                if (contains(mates[one], other)) {
                    offer(one, other);
                }
            }
        }
    }

    /** Considers two cards that share a key as the best candidates. */
    private void offer(int one, int other) {
        int points = scoreOf(one, other);
        if (points >= threshold && canBeMerged(one, other)) {
            best.consider(points, one, other);
        }
    }

    /** Puts for each card the cards that share a key with it into the row of mates. */
    private void gatherMates() {
        for (int card = 0; card < cardCount; card++) {
            mates[card] = 0;
        }
        for (int field = NAME; field <= MAILBOX; field++) {
            buckets.empty();
            for (int card = 0; card < cardCount; card++) {
                buckets.put(book[card].key(field), card);
            }
            for (int card = 0; card < cardCount; card++) {
                mates[card] |= buckets.holdersOf(book[card].key(field));
            }
        }
    }

    // Persons

    private int allCards() {
        return (1 << cardCount) - 1;
    }

    private boolean isOnePerson(int card, int other) {
        return contains(merges.joinedWith(card), other);
    }

    /** The cards of the person of a card that are forbidden with a card of the person of the other one. */
    private int barsBetween(int card, int other) {
        return merges.joinedWith(card) & forbidden.partnersOfAll(merges.joinedWith(other));
    }

    /** The persons, each as the bit of its number, that have one of some cards. */
    private int personsWith(int some) {
        int persons = 0;
        int seen = 0;
        for (int card = 0; card < cardCount; card++) {
            if (!contains(seen, card)) {
                int members = merges.joinedWith(card);
                seen |= members;
                if ((members & some) != 0) {
                    persons |= 1 << card;
                }
            }
        }
        return persons;
    }

    private int highestRanked(int members, int field) {
        int from = NONE;
        int highest = 0;
        for (int card = 0; card < cardCount; card++) {
            if (contains(members, card) && book[card].has(field) && ranks[book[card].source] > highest) {
                from = card;
                highest = ranks[book[card].source];
            }
        }
        return from;
    }

    private boolean disagree(int members, int field) {
        int first = NONE;
        for (int card = 0; card < cardCount; card++) {
            if (contains(members, card) && book[card].has(field)) {
                if (first == NONE) {
                    first = card;
                } else if (!book[first].agrees(book[card], field)) {
                    return true;
                }
            }
        }
        return false;
    }

    // Search

    private int matches(boolean bySound) {
        int matching = 0;
        for (int card = 0; card < cardCount; card++) {
            Name name = book[card].name;
            if (bySound ? name.soundsLike(query) : name.length > 0 && name.beginsWith(query)) {
                matching |= 1 << card;
            }
        }
        return matching;
    }

    // Sets of cards

    private static boolean contains(int some, int card) {
        return (some >> card & 1) != 0;
    }

    /** The lowest of some cards, or -1 if there are none. */
    private static int lowestOf(int some) {
        for (int card = 0; card < MAX_CARDS; card++) {
            if (contains(some, card)) {
                return card;
            }
        }
        return NONE;
    }

    /** Letters and their sound, which grows with them. */
    private static final class Name {
        private final char[] letters = new char[MAX_LETTERS];
        private int length;
        private final char[] sound = new char[MAX_SOUND];
        private int soundLength;

        void append(char letter) {
            if (length >= MAX_LETTERS) {
                return;
            }
            char digit = digitOf(letter);
            if (length == 0) {
                extendSound(letter);
            } else if (digit != '0' && digit != digitOf(letters[length - 1])) {
                extendSound(digit);
            }
            letters[length] = letter;
            length++;
        }

        private void extendSound(char sign) {
            if (soundLength < MAX_SOUND) {
                sound[soundLength] = sign;
                soundLength++;
            }
        }

        int empty() {
            int before = length;
            length = 0;
            soundLength = 0;
            return before;
        }

        boolean beginsWith(Name start) {
            if (start.length > length) {
                return false;
            }
            for (int index = 0; index < start.length; index++) {
                if (letters[index] != start.letters[index]) {
                    return false;
                }
            }
            return true;
        }

        boolean soundsLike(Name other) {
            return length > 0 && soundKey() == other.soundKey();
        }

        /** A number that two names share if they have the same sound, or -1 without letters. */
        int soundKey() {
            if (length == 0) {
                return NONE;
            }
            int key = 0;
            for (int index = 0; index < soundLength; index++) {
                key = key * 128 + sound[index];
            }
            return key;
        }

        private static char digitOf(char letter) {
            switch (letter) {
                case 'b': case 'f': case 'p': case 'v':
                    return '1';
                case 'c': case 'g': case 'j': case 'k': case 'q': case 's': case 'x': case 'z':
                    return '2';
                case 'd': case 't':
                    return '3';
                case 'l':
                    return '4';
                case 'm': case 'n':
                    return '5';
                case 'r':
                    return '6';
                default:
                    return '0';
            }
        }
    }

    /** A card with its fields; the place 0 of the numbers is not used, since the field 0 is the name. */
    private static final class Card {
        private int source;
        private final Name name = new Name();
        private final int[] numbers = {NONE, NONE, NONE, NONE};

        boolean has(int field) {
            return field == NAME ? name.length > 0 : numbers[field] != NONE;
        }

        boolean agrees(Card other, int field) {
            if (field == NAME) {
                return name.length == other.name.length && name.beginsWith(other.name);
            }
            return numbers[field] == other.numbers[field];
        }

        /** What two cards share that may be candidates by this field, or -1 for nothing. */
        int key(int field) {
            return field == NAME ? name.soundKey() : numbers[field];
        }
    }

    /** A relation between cards that goes both ways. */
    private static final class Relation {
        private final int[] partners = new int[MAX_CARDS];

        void tie(int card, int other) {
            partners[card] |= 1 << other;
            partners[other] |= 1 << card;
        }

        void cut(int card, int other) {
            partners[card] &= ~(1 << other);
            partners[other] &= ~(1 << card);
        }

        boolean holds(int card, int other) {
            return contains(partners[card], other);
        }

        int partnersOfAll(int some) {
            int all = 0;
            for (int card = 0; card < MAX_CARDS; card++) {
                if (contains(some, card)) {
                    all |= partners[card];
                }
            }
            return all;
        }
    }

    /**
     * The merges and the cards that they join. Two cards that are one person are not merged again, so that at most one
     * merge of two cards stands, and a cut of the relation takes just that one back.
     */
    private static final class Merges {
        private final int[] ones = new int[MAX_MERGES];
        private final int[] others = new int[MAX_MERGES];
        private final boolean[] standing = new boolean[MAX_MERGES];
        private int count;
        private final Relation links = new Relation();
        private final int[] labels = new int[MAX_CARDS];

        boolean isFull() {
            return count >= MAX_MERGES;
        }

        int make(int one, int other) {
            if (isFull()) {
                return NONE;
            }
            ones[count] = one;
            others[count] = other;
            standing[count] = true;
            links.tie(one, other);
            count++;
            return count - 1;
        }

        void takeBack(int merge) {
            standing[merge] = false;
            links.cut(ones[merge], others[merge]);
        }

        /** The cards of the person of a card, found from merge to merge. */
        int joinedWith(int card) {
            int reached = 1 << card;
            int fresh = reached;
            for (int step = 0; step < MAX_CARDS && fresh != 0; step++) {
                fresh = links.partnersOfAll(fresh) & ~reached;
                reached |= fresh;
            }
            return reached;
        }

        /** The least number of merges from a card to another one, or -1 if none lead there. */
        int distance(int card, int other) {
            int reached = 1 << card;
            for (int step = 0; step < MAX_CARDS; step++) {
                if (contains(reached, other)) {
                    return step;
                }
                reached |= links.partnersOfAll(reached);
            }
            return NONE;
        }

        /** Labels each card with its person, by rounds in which both cards of each merge take the lower label. */
        void labelByRounds() {
            for (int card = 0; card < MAX_CARDS; card++) {
                labels[card] = card;
            }
            boolean changed = true;
            for (int round = 0; round < MAX_CARDS && changed; round++) {
                changed = false;
                for (int merge = 0; merge < count; merge++) {
                    if (standing[merge] && labels[ones[merge]] != labels[others[merge]]) {
                        int lower = Math.min(labels[ones[merge]], labels[others[merge]]);
                        labels[ones[merge]] = lower;
                        labels[others[merge]] = lower;
                        changed = true;
                    }
                }
            }
        }
    }

    /** The best pair of those that have been considered. */
    private static final class Best {
        private int one = NONE;
        private int other = NONE;
        private int points;

        void forget() {
            one = NONE;
        }

        boolean isMissing() {
            return one == NONE;
        }

        void consider(int points, int one, int other) {
            // The pairs come in the order of their numbers, so that of those with the same score the first one stays.
            if (isMissing() || points > this.points) {
                this.points = points;
                this.one = one;
                this.other = other;
            }
        }
    }

    /** The cards that hold each of several keys; nobody holds a key that is less than 0. */
    private static final class Buckets {
        private final int[] keys = new int[MAX_CARDS];
        private final int[] holders = new int[MAX_CARDS];
        private int count;

        void empty() {
            count = 0;
        }

        void put(int key, int card) {
            int place = placeOf(key);
            if (place == count && key >= 0 && count < MAX_CARDS) {
                keys[place] = key;
                holders[place] = 0;
                count++;
            }
            if (place < count) {
                holders[place] |= 1 << card;
            }
        }

        int holdersOf(int key) {
            int place = placeOf(key);
            return place < count ? holders[place] : 0;
        }

        private int placeOf(int key) {
            for (int place = 0; place < count; place++) {
                if (keys[place] == key) {
                    return place;
                }
            }
            return count;
        }
    }
}
