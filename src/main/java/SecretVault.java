import java.util.NoSuchElementException;

/**
 * A vault for shared secrets: secrets are divided by polynomials over a prime among members with weights.
 *
 * <p>A set of members is an int with bit m for member m everywhere in this class. No method here makes the
 * machine throw: whatever the document wants thrown is thrown by a statement of this file.
 */
public final class SecretVault {
    private static final int P = 1019;
    private static final int Q = 2039;
    private static final int COMMITMENT_BASE = 4;
    private static final int EXPONENT_BITS = 10;

    private static final int MEMBERS = 8;
    private static final int SETS = 256;
    private static final int SLOTS = 4;
    private static final int PLACES_EACH = 3;
    private static final int PLACES = 24;
    private static final int HIGHEST_THRESHOLD = 8;
    private static final int HIGHEST_SHARE_EPOCH = 9999;
    private static final int BUFFER_LIMIT = 40;
    private static final int EVENTS_KEPT = 20;

    private static final int GOOD = 0;
    private static final int STALE = 1;
    private static final int WRONG = 2;

    private static final int CODE_FAILURE = 1;
    private static final int CODE_POLICY = 2;
    private static final int CODE_LACK = 3;
    private static final int CODE_STALE = 4;
    private static final int CODE_WRONG = 5;

    private final State now;
    private final State kept;
    private boolean anythingKept;
    private final StringBuilder buffer;
    private int faultAt;
    private final Report failure;

    // Rows that single calls work in, made once so that calls make none.
    private final int[] coefficients;
    private final int[] chosen;
    private final int[] goodShares;
    private final boolean[] opens;
    private final StringBuilder line;

    public SecretVault() {
        now = new State();
        kept = new State();
        buffer = new StringBuilder();
        faultAt = -1;
        failure = new Report();
        coefficients = new int[HIGHEST_THRESHOLD];
        chosen = new int[HIGHEST_THRESHOLD];
        goodShares = new int[MEMBERS];
        opens = new boolean[SETS];
        line = new StringBuilder();
    }

    // ---- members and random numbers

    public int seed(int z) {
        int before = now.z;
        now.z = z;
        return before;
    }

    public int draw() {
        return now.nextNumber();
    }

    public int setWeight(int member, int weight) throws IndexOutOfBoundsException, IllegalArgumentException {
        checkMember(member);
        if (weight < 0 || weight > PLACES_EACH) {
            throw new IllegalArgumentException("the weight is out of range");
        }
        int before = now.weights[member];
        now.weights[member] = weight;
        return before;
    }

    public boolean setPresent(int member, boolean present) throws IndexOutOfBoundsException {
        checkMember(member);
        boolean before = contains(now.present, member);
        int bit = 1 << member;
        now.present = present ? now.present | bit : now.present & ~bit;
        return before;
    }

    public int member(int member, int what) throws IndexOutOfBoundsException, IllegalArgumentException {
        checkMember(member);
        checkWhat(what, 3);
        if (what == 0) {
            return now.weights[member];
        }
        if (what == 1) {
            return contains(now.present, member) ? 1 : 0;
        }
        int all = 0;
        int good = 0;
        for (int slot = 0; slot < SLOTS; slot++) {
            all += now.secrets[slot].shareCount(1 << member);
            good += now.secrets[slot].shareCount(1 << member, GOOD);
        }
        return what == 2 ? all : all - good;
    }

    // ---- secrets

    public int put(int slot, int value, int threshold)
            throws IndexOutOfBoundsException, IllegalArgumentException, IllegalStateException {
        checkSlot(slot);
        checkValue(value);
        checkThreshold(threshold);
        checkPlacesSuffice(threshold);
        Secret secret = now.secrets[slot];
        secret.rule = null;
        secret.filled = true;
        int given = deal(secret, value, threshold, 1);
        now.note(100 + slot);
        return given;
    }

    public int remove(int slot) throws IndexOutOfBoundsException, java.util.NoSuchElementException {
        checkSlot(slot);
        Secret secret = secretIn(slot);
        secret.filled = false;
        secret.rule = null;
        secret.dropShares();
        now.note(200 + slot);
        return secret.epoch;
    }

    public int refresh(int slot) throws IndexOutOfBoundsException, java.util.NoSuchElementException {
        checkSlot(slot);
        int renewed = renewShares(secretIn(slot));
        now.note(300 + slot);
        return renewed;
    }

    public int reshare(int slot, int members, int threshold)
            throws IndexOutOfBoundsException, IllegalArgumentException, java.util.NoSuchElementException,
            UnsupportedOperationException, IllegalStateException {
        checkSlot(slot);
        checkSet(members);
        checkThreshold(threshold);
        Secret secret = secretIn(slot);
        chooseForOpening(slot, secret, members);
        checkPlacesSuffice(threshold);
        int given = deal(secret, secret.valueThrough(chosen, 0), threshold, secret.epoch + 1);
        now.note(400 + slot);
        return given;
    }

    public int enroll(int slot, int members, int member)
            throws IndexOutOfBoundsException, IllegalArgumentException, java.util.NoSuchElementException,
            UnsupportedOperationException {
        checkSlot(slot);
        checkMember(member);
        checkSet(members);
        Secret secret = secretIn(slot);
        chooseForOpening(slot, secret, members);
        int given = 0;
        for (int i = 0; i < now.weights[member]; i++) {
            int place = firstPlace(member) + i;
            if (!secret.holdsGood(place)) {
                secret.give(place, secret.valueThrough(chosen, place), secret.epoch);
                given++;
            }
        }
        now.note(500 + 10 * slot + member);
        return given;
    }

    public int expel(int slot, int member) throws IndexOutOfBoundsException, java.util.NoSuchElementException {
        checkSlot(slot);
        checkMember(member);
        Secret secret = secretIn(slot);
        int gone = secret.shareCount(1 << member);
        for (int i = 0; i < PLACES_EACH; i++) {
            secret.drop(firstPlace(member) + i);
        }
        now.note(600 + 10 * slot + member);
        return gone;
    }

    public int open(int slot, int members)
            throws IndexOutOfBoundsException, IllegalArgumentException, java.util.NoSuchElementException,
            UnsupportedOperationException {
        checkSlot(slot);
        checkSet(members);
        Secret secret = secretIn(slot);
        chooseForOpening(slot, secret, members);
        now.note(700 + slot);
        return secret.valueThrough(chosen, 0);
    }

    public int combine(int slot, int members)
            throws IndexOutOfBoundsException, IllegalArgumentException, java.util.NoSuchElementException,
            IllegalStateException {
        checkSlot(slot);
        checkSet(members);
        Secret secret = secretIn(slot);
        if (choose(secret, members, false) < secret.threshold) {
            throw new IllegalStateException("the members have too few shares");
        }
        return secret.valueThrough(chosen, 0);
    }

    public boolean agree(int slot, int members)
            throws IndexOutOfBoundsException, IllegalArgumentException, java.util.NoSuchElementException {
        checkSlot(slot);
        checkSet(members);
        Secret secret = secretIn(slot);
        if (choose(secret, members, false) < secret.threshold) {
            return true;
        }
        for (int place = 1; place <= PLACES; place++) {
            if (contains(members, ownerOf(place)) && secret.holds(place)
                    && secret.valueThrough(chosen, place) != secret.values[place]) {
                return false;
            }
        }
        return true;
    }

    public int secret(int slot, int what)
            throws IndexOutOfBoundsException, IllegalArgumentException, java.util.NoSuchElementException {
        checkSlot(slot);
        checkWhat(what, 6);
        Secret secret = secretIn(slot);
        switch (what) {
            case 0:
                return secret.threshold;
            case 1:
                return secret.epoch;
            case 2:
                return secret.shareCount(SETS - 1);
            case 3:
                return secret.shareCount(SETS - 1, GOOD);
            case 4:
                return secret.shareCount(SETS - 1, STALE);
            case 5:
                return secret.shareCount(SETS - 1, WRONG);
            default:
                return secret.rule == null ? 0 : 1;
        }
    }

    public int commitment(int slot, int index) throws IndexOutOfBoundsException, java.util.NoSuchElementException {
        checkSlot(slot);
        Secret secret = secretIn(slot);
        if (index < 0 || index >= secret.threshold) {
            throw new NoSuchElementException("no such commitment");
        }
        return secret.commitments[index];
    }

    // ---- shares

    public int share(int slot, int place, int what)
            throws IndexOutOfBoundsException, IllegalArgumentException, java.util.NoSuchElementException {
        checkSlot(slot);
        checkPlace(place);
        checkWhat(what, 2);
        Secret secret = secretWithShare(slot, place);
        if (what == 0) {
            return secret.values[place];
        }
        return what == 1 ? secret.epochs[place] : secret.stateOf(place);
    }

    public int setShare(int slot, int place, int value)
            throws IndexOutOfBoundsException, IllegalArgumentException, java.util.NoSuchElementException {
        checkSlot(slot);
        checkPlace(place);
        checkValue(value);
        Secret secret = secretWithShare(slot, place);
        int before = secret.values[place];
        secret.values[place] = value;
        return before;
    }

    public int shareText(int slot, int place, int index)
            throws IndexOutOfBoundsException, java.util.NoSuchElementException {
        checkSlot(slot);
        checkPlace(place);
        checkTextIndex(index);
        Secret secret = secretWithShare(slot, place);
        writeShare(place, secret.values[place], secret.epochs[place]);
        if (index >= line.length()) {
            throw new NoSuchElementException("the text of the share has no such index");
        }
        return index < 0 ? line.length() : line.charAt(index);
    }

    public int importShare(int slot)
            throws IndexOutOfBoundsException, java.util.NoSuchElementException, IllegalArgumentException {
        checkSlot(slot);
        Secret secret = secretIn(slot);
        ShareReader reader = new ShareReader(takeText());
        faultAt = reader.read();
        if (faultAt >= 0) {
            throw new IllegalArgumentException("the text of the share has an error");
        }
        secret.give(reader.place, reader.value, reader.epoch);
        return reader.place;
    }

    public int bad(int slot, int index) throws IndexOutOfBoundsException, java.util.NoSuchElementException {
        checkSlot(slot);
        Secret secret = secretIn(slot);
        int seen = 0;
        for (int place = 1; place <= PLACES; place++) {
            if (secret.holds(place) && secret.stateOf(place) != GOOD) {
                if (seen == index) {
                    return place;
                }
                seen++;
            }
        }
        throw new NoSuchElementException("no such place");
    }

    // ---- policies

    public int append(int packed) throws IllegalArgumentException, IllegalStateException {
        int added = 0;
        for (int shift = 24; shift >= 0; shift -= 8) {
            int sign = packed >>> shift & 255;
            if (sign != 0 && (sign < 33 || sign > 126)) {
                throw new IllegalArgumentException("a character is not from 33 to 126");
            }
            added += sign == 0 ? 0 : 1;
        }
        if (buffer.length() + added > BUFFER_LIMIT) {
            throw new IllegalStateException("the buffer would hold too many characters");
        }
        for (int shift = 24; shift >= 0; shift -= 8) {
            int sign = packed >>> shift & 255;
            if (sign != 0) {
                buffer.append((char) sign);
            }
        }
        return buffer.length();
    }

    public boolean setPolicy(int slot)
            throws IndexOutOfBoundsException, java.util.NoSuchElementException, IllegalArgumentException {
        checkSlot(slot);
        Secret secret = secretIn(slot);
        String text = takeText();
        faultAt = text.isEmpty() ? -1 : new PolicyReader(text).read();
        if (faultAt >= 0) {
            throw new IllegalArgumentException("the text of the policy has an error");
        }
        boolean before = secret.rule != null;
        secret.rule = text.isEmpty() ? null : Policy.from(text);
        return before;
    }

    public int errorPosition() {
        return faultAt;
    }

    public boolean fulfils(int slot, int members)
            throws IndexOutOfBoundsException, IllegalArgumentException, java.util.NoSuchElementException {
        checkSlot(slot);
        checkSet(members);
        return secretIn(slot).allows(members);
    }

    public int policyText(int slot, int index) throws IndexOutOfBoundsException, java.util.NoSuchElementException {
        checkSlot(slot);
        checkTextIndex(index);
        String text = policyOf(secretIn(slot)).text;
        if (index >= text.length()) {
            throw new NoSuchElementException("the text of the policy has no such index");
        }
        return index < 0 ? text.length() : text.charAt(index);
    }

    public int policy(int slot, int what)
            throws IndexOutOfBoundsException, IllegalArgumentException, java.util.NoSuchElementException {
        checkSlot(slot);
        checkWhat(what, 2);
        Policy rule = policyOf(secretIn(slot));
        if (what == 0) {
            return rule.parts;
        }
        return what == 1 ? rule.nesting : rule.named;
    }

    // ---- groups

    public int groups(int slot) throws IndexOutOfBoundsException, java.util.NoSuchElementException {
        checkSlot(slot);
        markOpeningSets(secretIn(slot));
        int count = 0;
        for (int set = 0; set < SETS; set++) {
            count += opens[set] ? 1 : 0;
        }
        return count;
    }

    public int smallest(int slot, int index) throws IndexOutOfBoundsException, java.util.NoSuchElementException {
        checkSlot(slot);
        markOpeningSets(secretIn(slot));
        int seen = 0;
        for (int set = 0; set < SETS; set++) {
            if (needsAllMembers(set)) {
                if (seen == index) {
                    return set;
                }
                seen++;
            }
        }
        throw new NoSuchElementException("no such set");
    }

    public long powerBits(int slot, int member) throws IndexOutOfBoundsException, java.util.NoSuchElementException {
        checkSlot(slot);
        checkMember(member);
        markOpeningSets(secretIn(slot));
        int count = 0;
        for (int set = 0; set < SETS; set++) {
            count += isNeeded(member, set) ? 1 : 0;
        }
        return Bits.ofDouble((double) count / (double) (SETS / 2));
    }

    public int healthBits(int slot)
            throws IndexOutOfBoundsException, java.util.NoSuchElementException, ArithmeticException {
        checkSlot(slot);
        Secret secret = secretIn(slot);
        int all = secret.shareCount(SETS - 1);
        if (all == 0) {
            throw new ArithmeticException("there are no shares");
        }
        return Bits.ofFloat((float) secret.shareCount(SETS - 1, GOOD) / (float) all);
    }

    // ---- reports, events, snapshots

    public int levels() {
        return failure.size;
    }

    public int report(int level, int what) throws java.util.NoSuchElementException, IllegalArgumentException {
        if (level < 0 || level >= failure.size) {
            throw new NoSuchElementException("no such level");
        }
        checkWhat(what, 1);
        return what == 0 ? failure.codes[level] : failure.details[level];
    }

    public int event(int index) throws java.util.NoSuchElementException {
        if (index < 0 || index >= now.eventCount) {
            throw new NoSuchElementException("no such event");
        }
        return now.events[(now.latestEvent + EVENTS_KEPT - index) % EVENTS_KEPT];
    }

    public int save() {
        kept.copyFrom(now);
        anythingKept = true;
        return now.filledSlots();
    }

    public int restore() throws IllegalStateException {
        if (!anythingKept) {
            throw new IllegalStateException("nothing was saved");
        }
        now.copyFrom(kept);
        return now.filledSlots();
    }

    // ---- tests of arguments

    private static void checkMember(int member) {
        if (member < 0 || member >= MEMBERS) {
            throw new IndexOutOfBoundsException("no such member");
        }
    }

    private static void checkSlot(int slot) {
        if (slot < 0 || slot >= SLOTS) {
            throw new IndexOutOfBoundsException("no such slot");
        }
    }

    private static void checkPlace(int place) {
        if (place < 1 || place > PLACES) {
            throw new IndexOutOfBoundsException("no such place");
        }
    }

    private static void checkTextIndex(int index) {
        if (index < -1) {
            throw new IndexOutOfBoundsException("the index is less than -1");
        }
    }

    private static void checkWhat(int what, int highest) {
        if (what < 0 || what > highest) {
            throw new IllegalArgumentException("no such property");
        }
    }

    private static void checkSet(int members) {
        if (members < 0 || members >= SETS) {
            throw new IllegalArgumentException("a bit is set for no member");
        }
    }

    private static void checkValue(int value) {
        if (value < 0 || value >= P) {
            throw new IllegalArgumentException("the value is out of range");
        }
    }

    private static void checkThreshold(int threshold) {
        if (threshold < 1 || threshold > HIGHEST_THRESHOLD) {
            throw new IllegalArgumentException("the threshold is out of range");
        }
    }

    private void checkPlacesSuffice(int threshold) {
        if (now.dealtPlaces() < threshold) {
            throw new IllegalStateException("the present members have too few used places");
        }
    }

    private Secret secretIn(int slot) {
        Secret secret = now.secrets[slot];
        if (!secret.filled) {
            throw new NoSuchElementException("the slot is empty");
        }
        return secret;
    }

    private Secret secretWithShare(int slot, int place) {
        Secret secret = secretIn(slot);
        if (!secret.holds(place)) {
            throw new NoSuchElementException("there is no share at this place");
        }
        return secret;
    }

    private static Policy policyOf(Secret secret) {
        if (secret.rule == null) {
            throw new NoSuchElementException("there is no policy");
        }
        return secret.rule;
    }

    // ---- sets and places

    private static boolean contains(int set, int member) {
        return (set >> member & 1) == 1;
    }

    private static int ownerOf(int place) {
        return (place - 1) / PLACES_EACH;
    }

    private static int firstPlace(int member) {
        return PLACES_EACH * member + 1;
    }

    // ---- dealing and refreshing

    private int deal(Secret secret, int value, int threshold, int epoch) {
        drawCoefficients(value, threshold);
        secret.threshold = threshold;
        secret.epoch = epoch;
        for (int j = 0; j < threshold; j++) {
            secret.commitments[j] = Numbers.commitmentTo(coefficients[j]);
        }
        secret.dropShares();
        int given = 0;
        for (int place = 1; place <= PLACES; place++) {
            if (now.isDealtTo(place)) {
                secret.give(place, Numbers.polynomialAt(place, coefficients, threshold), epoch);
                given++;
            }
        }
        return given;
    }

    private int renewShares(Secret secret) {
        drawCoefficients(0, secret.threshold);
        int renewed = 0;
        for (int place = 1; place <= PLACES; place++) {
            if (contains(now.present, ownerOf(place)) && secret.holds(place) && secret.epochs[place] == secret.epoch) {
                int change = Numbers.polynomialAt(place, coefficients, secret.threshold);
                secret.give(place, (secret.values[place] + change) % P, secret.epoch + 1);
                renewed++;
            }
        }
        for (int j = 0; j < secret.threshold; j++) {
            secret.commitments[j] = secret.commitments[j] * Numbers.commitmentTo(coefficients[j]) % Q;
        }
        secret.epoch++;
        return renewed;
    }

    private void drawCoefficients(int first, int count) {
        coefficients[0] = first;
        for (int j = 1; j < count; j++) {
            coefficients[j] = now.nextNumber();
        }
    }

    // ---- opening

    /** Chooses the shares that open a secret, or leaves a report and throws. */
    private void chooseForOpening(int slot, Secret secret, int members) {
        int taken = members & now.present;
        if (!secret.allows(taken)) {
            failure.begin(slot);
            failure.add(CODE_POLICY, taken);
            throw new UnsupportedOperationException("the policy is not fulfilled");
        }
        int used = choose(secret, taken, true);
        if (used < secret.threshold) {
            failure.begin(slot);
            failure.add(CODE_LACK, secret.threshold - used);
            reportBadShares(secret, taken);
            throw new UnsupportedOperationException("there are too few shares");
        }
    }

    private void reportBadShares(Secret secret, int members) {
        for (int place = 1; place <= PLACES; place++) {
            if (contains(members, ownerOf(place)) && secret.holds(place)) {
                int state = secret.stateOf(place);
                if (state != GOOD) {
                    failure.add(state == STALE ? CODE_STALE : CODE_WRONG, place);
                }
            }
        }
    }

    /** Chooses the lowest places, at most as many as the threshold, and answers how many there are. */
    private int choose(Secret secret, int members, boolean goodOnly) {
        int count = 0;
        for (int place = 1; place <= PLACES && count < secret.threshold; place++) {
            if (contains(members, ownerOf(place)) && secret.holds(place)
                    && (!goodOnly || secret.stateOf(place) == GOOD)) {
                chosen[count] = place;
                count++;
            }
        }
        return count;
    }

    private void markOpeningSets(Secret secret) {
        for (int member = 0; member < MEMBERS; member++) {
            goodShares[member] = secret.shareCount(1 << member & now.present, GOOD);
        }
        for (int set = 0; set < SETS; set++) {
            opens[set] = goodSharesOf(set) >= secret.threshold && secret.allows(set & now.present);
        }
    }

    private int goodSharesOf(int set) {
        int sum = 0;
        for (int member = 0; member < MEMBERS; member++) {
            sum += contains(set, member) ? goodShares[member] : 0;
        }
        return sum;
    }

    private boolean isNeeded(int member, int set) {
        return contains(set, member) && opens[set] && !opens[set & ~(1 << member)];
    }

    private boolean needsAllMembers(int set) {
        for (int member = 0; member < MEMBERS; member++) {
            if (contains(set, member) && !isNeeded(member, set)) {
                return false;
            }
        }
        return opens[set];
    }

    // ---- texts

    private String takeText() {
        String text = buffer.toString();
        buffer.setLength(0);
        return text;
    }

    private void writeShare(int place, int value, int epoch) {
        line.setLength(0);
        line.append(place).append(':').append(value).append('@').append(epoch).append('#');
        line.append(Numbers.checkDigit(place, value, epoch));
    }

    /** All that save keeps. */
    private static final class State {
        int z;
        final int[] weights;
        int present;
        final Secret[] secrets;
        final int[] events;
        int latestEvent;
        int eventCount;

        State() {
            z = 1;
            weights = new int[MEMBERS];
            for (int member = 0; member < MEMBERS; member++) {
                weights[member] = 1;
            }
            present = SETS - 1;
            secrets = new Secret[SLOTS];
            for (int slot = 0; slot < SLOTS; slot++) {
                secrets[slot] = new Secret();
            }
            events = new int[EVENTS_KEPT];
        }

        void copyFrom(State other) {
            z = other.z;
            System.arraycopy(other.weights, 0, weights, 0, MEMBERS);
            present = other.present;
            for (int slot = 0; slot < SLOTS; slot++) {
                secrets[slot].copyFrom(other.secrets[slot]);
            }
            System.arraycopy(other.events, 0, events, 0, EVENTS_KEPT);
            latestEvent = other.latestEvent;
            eventCount = other.eventCount;
        }

        int nextNumber() {
            z = z * 1103515245 + 12345;
            return (z >>> 16) % P;
        }

        /** The latest event takes the place of the oldest one when all places are taken. */
        void note(int code) {
            latestEvent = (latestEvent + 1) % EVENTS_KEPT;
            events[latestEvent] = code;
            eventCount = Math.min(eventCount + 1, EVENTS_KEPT);
        }

        boolean isDealtTo(int place) {
            int member = ownerOf(place);
            return contains(present, member) && place - firstPlace(member) < weights[member];
        }

        int dealtPlaces() {
            int count = 0;
            for (int member = 0; member < MEMBERS; member++) {
                count += contains(present, member) ? weights[member] : 0;
            }
            return count;
        }

        int filledSlots() {
            int count = 0;
            for (int slot = 0; slot < SLOTS; slot++) {
                count += secrets[slot].filled ? 1 : 0;
            }
            return count;
        }
    }

    /** A slot. Its rows for shares are as long as the highest place, so that a place is its own index. */
    private static final class Secret {
        boolean filled;
        int threshold;
        int epoch;
        final int[] commitments;
        Policy rule;
        final int[] values;
        // 0 where there is no share: epochs of shares begin with 1.
        final int[] epochs;

        Secret() {
            commitments = new int[HIGHEST_THRESHOLD];
            values = new int[PLACES + 1];
            epochs = new int[PLACES + 1];
        }

        void copyFrom(Secret other) {
            filled = other.filled;
            threshold = other.threshold;
            epoch = other.epoch;
            System.arraycopy(other.commitments, 0, commitments, 0, HIGHEST_THRESHOLD);
            // A policy never changes once it is made, so both may have the same.
            rule = other.rule;
            System.arraycopy(other.values, 0, values, 0, PLACES + 1);
            System.arraycopy(other.epochs, 0, epochs, 0, PLACES + 1);
        }

        boolean holds(int place) {
            return epochs[place] != 0;
        }

        void give(int place, int value, int shareEpoch) {
            values[place] = value;
            epochs[place] = shareEpoch;
        }

        void drop(int place) {
            values[place] = 0;
            epochs[place] = 0;
        }

        void dropShares() {
            for (int place = 1; place <= PLACES; place++) {
                drop(place);
            }
        }

        int stateOf(int place) {
            if (epochs[place] != epoch) {
                return STALE;
            }
            return Numbers.commitmentTo(values[place]) == committedAt(place) ? GOOD : WRONG;
        }

        boolean holdsGood(int place) {
            return holds(place) && stateOf(place) == GOOD;
        }

        private int committedAt(int place) {
            int product = 1;
            int exponent = 1;
            for (int j = 0; j < threshold; j++) {
                product = product * Numbers.powerModQ(commitments[j], exponent) % Q;
                exponent = exponent * place % P;
            }
            return product;
        }

        int shareCount(int members) {
            int count = 0;
            for (int place = 1; place <= PLACES; place++) {
                count += contains(members, ownerOf(place)) && holds(place) ? 1 : 0;
            }
            return count;
        }

        int shareCount(int members, int state) {
            int count = 0;
            for (int place = 1; place <= PLACES; place++) {
                if (contains(members, ownerOf(place)) && holds(place) && stateOf(place) == state) {
                    count++;
                }
            }
            return count;
        }

        boolean allows(int members) {
            return rule == null || rule.fulfilled[members];
        }

        /** The value at x that the shares at the first places of the row, as many as the threshold, determine. */
        int valueThrough(int[] places, int x) {
            int sum = 0;
            for (int i = 0; i < threshold; i++) {
                int above = values[places[i]];
                int below = 1;
                for (int j = 0; j < threshold; j++) {
                    if (j != i) {
                        above = above * Math.floorMod(x - places[j], P) % P;
                        below = below * Math.floorMod(places[i] - places[j], P) % P;
                    }
                }
                sum = (sum + above * Numbers.inverse(below)) % P;
            }
            return sum;
        }
    }

    /** Why opening failed most recently. */
    private static final class Report {
        final int[] codes;
        final int[] details;
        int size;

        Report() {
            codes = new int[PLACES + 2];
            details = new int[PLACES + 2];
        }

        void begin(int slot) {
            size = 0;
            add(CODE_FAILURE, slot);
        }

        void add(int code, int detail) {
            if (size < codes.length) {
                codes[size] = code;
                details[size] = detail;
                size++;
            }
        }
    }

    /** Arithmetic modulo p and q. All exponents are less than 2 to the power of EXPONENT_BITS. */
    private static final class Numbers {
        static int powerModQ(int base, int exponent) {
            int power = 1;
            for (int bit = EXPONENT_BITS - 1; bit >= 0; bit--) {
                power = power * power % Q;
                if ((exponent >> bit & 1) == 1) {
                    power = power * base % Q;
                }
            }
            return power;
        }

        static int commitmentTo(int value) {
            return powerModQ(COMMITMENT_BASE, value);
        }

        /** By Fermat, a to the power of p - 2 is the inverse of a. */
        static int inverse(int number) {
            int power = 1;
            for (int bit = EXPONENT_BITS - 1; bit >= 0; bit--) {
                power = power * power % P;
                if ((P - 2 >> bit & 1) == 1) {
                    power = power * number % P;
                }
            }
            return power;
        }

        static int polynomialAt(int x, int[] coefficients, int count) {
            int value = 0;
            for (int j = count - 1; j >= 0; j--) {
                value = (value * x + coefficients[j]) % P;
            }
            return value;
        }

        static int checkDigit(int place, int value, int epoch) {
            return (7 * place + 3 * value + epoch) % 10;
        }
    }

    /** The bits of fractions from 0 to 1, which double to reach the range from 1 to 2 without being rounded. */
    private static final class Bits {
        static long ofDouble(double fraction) {
            if (fraction == 0.0) {
                return 0L;
            }
            int exponent = 1023;
            double scaled = fraction;
            while (scaled < 1.0 && exponent > 1) {
                scaled = scaled * 2.0;
                exponent--;
            }
            long mantissa = (long) (scaled * (double) (1L << 52)) - (1L << 52);
            return ((long) exponent << 52) + mantissa;
        }

        static int ofFloat(float fraction) {
            if (fraction == 0.0f) {
                return 0;
            }
            int exponent = 127;
            float scaled = fraction;
            while (scaled < 1.0f && exponent > 1) {
                scaled = scaled * 2.0f;
                exponent--;
            }
            int mantissa = (int) (scaled * (float) (1 << 23)) - (1 << 23);
            return (exponent << 23) + mantissa;
        }
    }

    /** Reads the text of a share once, from its beginning to the first error. */
    private static final class ShareReader {
        private static final int DIGITS = 4;

        private final String text;
        private int next;
        private int error;
        int place;
        int value;
        int epoch;

        ShareReader(String text) {
            this.text = text;
            error = -1;
        }

        /** Answers the error position, or -1. */
        int read() {
            place = readNumber(1, PLACES);
            readSign(':');
            value = readNumber(0, P - 1);
            readSign('@');
            epoch = readNumber(1, HIGHEST_SHARE_EPOCH);
            readSign('#');
            readSign((char) ('0' + Numbers.checkDigit(place, value, epoch)));
            if (error < 0 && next < text.length()) {
                error = next;
            }
            return error;
        }

        private int readNumber(int lowest, int highest) {
            if (error >= 0) {
                return 0;
            }
            int first = next;
            int number = 0;
            // A number that is 0 after its first digit is 0 alone: no digit may follow.
            while (next < first + DIGITS && isDigitAt(next) && (next == first || number != 0)) {
                number = 10 * number + (text.charAt(next) - '0');
                next++;
            }
            if (next == first || number < lowest || number > highest) {
                error = first;
            }
            return number;
        }

        private void readSign(char sign) {
            if (error >= 0) {
                return;
            }
            if (next < text.length() && text.charAt(next) == sign) {
                next++;
            } else {
                error = next;
            }
        }

        private boolean isDigitAt(int index) {
            return index < text.length() && text.charAt(index) >= '0' && text.charAt(index) <= '9';
        }
    }

    /** A policy, which never changes. It is worked out for all sets at once, for they are few. */
    private static final class Policy {
        final String text;
        final int parts;
        final int nesting;
        final int named;
        final boolean[] fulfilled;

        private Policy(String text, int parts, int nesting, int named, boolean[] fulfilled) {
            this.text = text;
            this.parts = parts;
            this.nesting = nesting;
            this.named = named;
            this.fulfilled = fulfilled;
        }

        /** Expects a text without an error. */
        static Policy from(String source) {
            String text = PolicySyntax.withoutNeedlessParentheses(source);
            Judge judge = new Judge(text);
            boolean[] fulfilled = new boolean[SETS];
            for (int set = 0; set < SETS; set++) {
                fulfilled[set] = judge.isFulfilledBy(set);
            }
            int parts = 0;
            int named = 0;
            for (int at = 0; at < text.length(); at++) {
                if (PolicySyntax.isMember(text, at)) {
                    named |= 1 << (text.charAt(at) - '0');
                    parts++;
                } else if (PolicySyntax.isCount(text, at)) {
                    parts++;
                }
            }
            return new Policy(text, parts, PolicySyntax.nestingOf(text), named, fulfilled);
        }
    }

    /** Reads the text of a policy once, a character a step, up to the first error. */
    private static final class PolicyReader {
        private static final int DUE_PART = 0;
        private static final int DUE_O = 1;
        private static final int DUE_F = 2;
        private static final int DUE_PARENTHESIS = 3;
        private static final int DUE_SIGN = 4;

        private final String text;
        // For each parenthesis that is open, whether it belongs to a count; the first is for the whole text.
        private final boolean[] ofCount;
        private int open;
        private int due;

        PolicyReader(String text) {
            this.text = text;
            ofCount = new boolean[text.length() + 1];
            due = DUE_PART;
        }

        /** Answers the error position, or -1. */
        int read() {
            for (int at = 0; at < text.length(); at++) {
                if (!takes(at)) {
                    return at;
                }
            }
            return due == DUE_SIGN && open == 0 ? -1 : text.length();
        }

        private boolean takes(int at) {
            char sign = text.charAt(at);
            switch (due) {
                case DUE_PART:
                    return takesBeginOfPart(at, sign);
                case DUE_O:
                    due = DUE_F;
                    return sign == 'o';
                case DUE_F:
                    due = DUE_PARENTHESIS;
                    return sign == 'f';
                case DUE_PARENTHESIS:
                    begin(true);
                    return sign == '(';
                default:
                    return takesBehindPart(sign);
            }
        }

        private boolean takesBeginOfPart(int at, char sign) {
            if (sign == '(') {
                begin(false);
                return true;
            }
            // 8 and 9 are no members, so an o is due even if another character follows.
            if (sign == '8' || sign == '9' || PolicySyntax.isCount(text, at)) {
                due = DUE_O;
                return true;
            }
            due = DUE_SIGN;
            return PolicySyntax.isMember(text, at);
        }

        private boolean takesBehindPart(char sign) {
            if (sign == ')' && open > 0) {
                open--;
                return true;
            }
            due = DUE_PART;
            return sign == '&' || sign == '|' || sign == ',' && ofCount[open];
        }

        private void begin(boolean isOfCount) {
            if (open + 1 < ofCount.length) {
                open++;
                ofCount[open] = isOfCount;
            }
            due = DUE_PART;
        }
    }

    /** The form of the texts of policies. */
    private static final class PolicySyntax {
        static boolean isSignAt(String text, int at, char sign) {
            return at >= 0 && at < text.length() && text.charAt(at) == sign;
        }

        static boolean isCount(String text, int at) {
            return text.charAt(at) >= '1' && text.charAt(at) <= '9' && isSignAt(text, at + 1, 'o');
        }

        static boolean isMember(String text, int at) {
            return text.charAt(at) >= '0' && text.charAt(at) <= '7' && !isCount(text, at);
        }

        /** Leaves out a pair of parentheses unless alternatives in it stand beside an &, or it follows an of. */
        static String withoutNeedlessParentheses(String text) {
            boolean[] needless = new boolean[text.length()];
            int[] start = new int[text.length() + 1];
            boolean[] alternatives = new boolean[text.length() + 1];
            int open = 0;
            for (int at = 0; at < text.length(); at++) {
                char sign = text.charAt(at);
                if (sign == '(') {
                    open++;
                    start[open] = at;
                    alternatives[open] = false;
                } else if (sign == '|') {
                    alternatives[open] = true;
                } else if (sign == ')' && open > 0) {
                    int from = start[open];
                    boolean several = alternatives[open];
                    open--;
                    boolean besideAnd = isSignAt(text, from - 1, '&') || isSignAt(text, at + 1, '&');
                    if (!isSignAt(text, from - 1, 'f') && !(several && besideAnd)) {
                        needless[from] = true;
                        needless[at] = true;
                        alternatives[open] = alternatives[open] || several;
                    }
                }
            }
            return without(text, needless);
        }

        private static String without(String text, boolean[] left) {
            StringBuilder rest = new StringBuilder();
            for (int at = 0; at < text.length() && at < left.length; at++) {
                if (!left[at]) {
                    rest.append(text.charAt(at));
                }
            }
            return rest.toString();
        }

        /** The greatest number of counts that lie in one another. */
        static int nestingOf(String text) {
            int[] counts = new int[text.length() + 1];
            int open = 0;
            int most = 0;
            for (int at = 0; at < text.length(); at++) {
                if (text.charAt(at) == '(') {
                    counts[open + 1] = counts[open] + (isSignAt(text, at - 1, 'f') ? 1 : 0);
                    open++;
                    most = Math.max(most, counts[open]);
                } else if (text.charAt(at) == ')' && open > 0) {
                    open--;
                }
            }
            return most;
        }
    }

    /** Works a policy out for sets. Parentheses without a count are a count of 1 with one condition. */
    private static final class Judge {
        private final String text;
        // For each parenthesis that is open, and first for the whole text:
        private final int[] due;
        private final int[] met;
        private final boolean[] anyAll;
        private final boolean[] allSoFar;
        private int open;

        Judge(String text) {
            this.text = text;
            due = new int[text.length() + 1];
            met = new int[text.length() + 1];
            anyAll = new boolean[text.length() + 1];
            allSoFar = new boolean[text.length() + 1];
        }

        boolean isFulfilledBy(int set) {
            open = 0;
            begin(1);
            int count = 1;
            for (int at = 0; at < text.length(); at++) {
                char sign = text.charAt(at);
                if (PolicySyntax.isCount(text, at)) {
                    count = sign - '0';
                } else if (PolicySyntax.isMember(text, at)) {
                    require(contains(set, sign - '0'));
                } else if (sign == '(') {
                    open++;
                    begin(count);
                    count = 1;
                } else if (sign == '|') {
                    endAll();
                } else if (sign == ',') {
                    endCondition();
                } else if (sign == ')' && open > 0) {
                    boolean fulfilled = end();
                    open--;
                    require(fulfilled);
                }
            }
            return end();
        }

        private void begin(int count) {
            due[open] = count;
            met[open] = 0;
            anyAll[open] = false;
            allSoFar[open] = true;
        }

        private void require(boolean fulfilled) {
            allSoFar[open] = allSoFar[open] && fulfilled;
        }

        private void endAll() {
            anyAll[open] = anyAll[open] || allSoFar[open];
            allSoFar[open] = true;
        }

        private void endCondition() {
            endAll();
            met[open] += anyAll[open] ? 1 : 0;
            anyAll[open] = false;
        }

        private boolean end() {
            endCondition();
            return met[open] >= due[open];
        }
    }
}
