import java.util.Arrays;

/** A census of reflections: what each call answers stands in the document, by its promises. */
public final class ReflectCensus {
    /** There is none. */
    public static final int NONE = -1;

    private static final int NO_SUCH = -2;

    private static final int PARISHES = 0;
    private static final int LAWS = 1;
    private static final int EVENINGS = 2;
    private static final int SIGHTS = 3;
    private static final int SORTS = 4;
    private static final int MOST_OF_A_SORT = 2;
    private static final int IMAGES = 3;

    private static final int MOST_BYTES = 600;
    private static final int BYTES_A_FEED = 20;
    private static final int MOST_PEOPLE = 8;
    private static final int MOST_SHINES = 8;
    private static final int MOST_DEEDS = 40;
    private static final int MOST_SQUARES = 64;
    private static final int PARTIES = 4;
    private static final int DIRECTIONS = 8;
    private static final int COUPLES = 64;
    private static final int MOST_STEPS = 99;
    private static final int MOST_WINDS = 9;

    private static final int FREE = 0;
    private static final int WALL = 1;
    private static final int PERSON = 10;
    private static final int SHINE = 20;

    private static final int POND = 0;
    private static final int SPOON = 1;
    private static final int MIRROR = 2;
    private static final int EYE = 3;

    private static final int GO = 0;
    private static final int TURN = 1;
    private static final int STIR = 2;
    private static final int CALM = 3;
    private static final int COUNT = 4;

    private final Told now;
    private final Told[] images;
    private final Reader reader;
    private final Board board;
    private final Play play;
    private final Choice choice;
    private final Walk walk;
    private final Fit fit;

    public ReflectCensus() {
        now = new Told();
        images = new Told[IMAGES];
        reader = new Reader();
        board = new Board();
        play = new Play(board);
        choice = new Choice(board);
        walk = new Walk(board);
        fit = new Fit(board);
    }

    public int feed(int a, int b, int c, int d, int e) {
        if (now.length + BYTES_A_FEED > MOST_BYTES) return NONE;
        now.addBytes(a);
        now.addBytes(b);
        now.addBytes(c);
        now.addBytes(d);
        now.addBytes(e);
        return now.length;
    }

    public int end(int n) {
        if (n < 0 || n > now.length) return NONE;
        now.length = n;
        return n;
    }

    public int text(int sort, int at) {
        // the tape is taken by every call, also where no text is read
        int length = now.length;
        now.length = 0;
        now.fault = 0;
        now.place = NONE;
        if (sort < 0 || sort >= SORTS) return NO_SUCH;
        int number = now.number[sort];
        boolean further = at == NONE;
        if (further && number >= MOST_OF_A_SORT) return NO_SUCH;
        if (!further && (at < 0 || at >= number)) return NO_SUCH;
        reader.read(now.tape, length, sort);
        now.fault = reader.fault;
        now.place = reader.place;
        if (reader.fault != 0) return NONE;
        int slot = further ? number : at;
        if (further) now.number[sort] = number + 1;
        keepDraft(sort, slot);
        return slot;
    }

    private void keepDraft(int sort, int slot) {
        if (sort == PARISHES) now.parishes[slot].copyFrom(reader.parish);
        if (sort == LAWS) now.laws[slot].copyFrom(reader.law);
        if (sort == EVENINGS) now.evenings[slot].copyFrom(reader.evening);
        if (sort == SIGHTS) now.sights[slot].copyFrom(reader.sight);
    }

    public int fault(int what) {
        if (what == 0) return now.fault;
        return what == 1 ? now.place : NONE;
    }

    public int parish(int parish, int what) {
        Parish told = now.parishAt(parish);
        return told == null ? NONE : told.tell(what);
    }

    public int square(int parish, int square) {
        Parish told = now.parishAt(parish);
        if (told == null || !told.hasSquare(square)) return NONE;
        return told.cell[square];
    }

    public int law(int law, int what) {
        Law told = now.lawAt(law);
        return told == null ? NONE : told.tell(what);
    }

    public int deed(int evening, int k, int what) {
        Evening told = now.eveningAt(evening);
        if (told == null) return NO_SUCH;
        if (k == NONE) return what == 0 ? told.deeds : NO_SUCH;
        if (k < 0 || k >= told.deeds) return NO_SUCH;
        if (what == 0) return told.kind[k];
        if (what == 1) return told.first[k];
        return what == 2 ? told.second[k] : NO_SUCH;
    }

    public int looks(int parish, int shine, int direction) {
        Parish told = now.parishAt(parish);
        if (told == null || !told.hasShine(shine)) return NO_SUCH;
        if (direction < 0 || direction >= DIRECTIONS) return NO_SUCH;
        board.begin(told);
        if (!board.opens(shine, direction)) return NONE;
        int thing = board.meets(shine, direction);
        if (thing >= SHINE) return 10 + thing - SHINE;
        return thing >= PERSON ? thing - PERSON : NONE;
    }

    public int degree(int parish, int shine, int person) {
        Parish told = now.parishAt(parish);
        if (told == null || !told.hasShine(shine) || !told.hasPerson(person)) return NO_SUCH;
        board.begin(told);
        return board.degreeOf(shine, person);
    }

    public int counted(int parish, int law, int shine) {
        Parish told = now.parishAt(parish);
        Law under = now.lawAt(law);
        if (told == null || under == null) return NONE;
        if (shine != NONE && !told.hasShine(shine)) return NONE;
        board.begin(told);
        int sum = board.sumBy(under);
        return shine == NONE ? sum : board.countIn(shine, under);
    }

    public int party(int parish, int law, int party, boolean seats) {
        Parish told = now.parishAt(parish);
        Law under = now.lawAt(law);
        if (told == null || under == null || !isParty(party)) return NONE;
        board.begin(told);
        if (seats) return board.seatsOf(party, under);
        board.addTotals(under);
        return board.totals[party];
    }

    public int stop(int parish, int law, int evening) {
        Parish told = now.parishAt(parish);
        Law under = now.lawAt(law);
        Evening deeds = now.eveningAt(evening);
        if (told == null || under == null || deeds == null) return NONE;
        play.begin(told);
        return play.perform(deeds, under, deeds.deeds);
    }

    public int state(int parish, int law, int evening, int n, int what) {
        Parish told = now.parishAt(parish);
        Law under = now.lawAt(law);
        Evening deeds = now.eveningAt(evening);
        if (told == null || under == null || deeds == null) return NO_SUCH;
        if (n < 0 || n > deeds.deeds) return NO_SUCH;
        play.begin(told);
        if (play.perform(deeds, under, n) < n) return NO_SUCH;
        return play.tell(under, what);
    }

    public int stand(int parish, int law, int person, boolean fewest, boolean sum) {
        Parish told = now.parishAt(parish);
        Law under = now.lawAt(law);
        if (told == null || under == null || !told.hasPerson(person)) return NONE;
        choice.placeOne(told, under, person, fewest);
        return sum ? choice.value : choice.where;
    }

    public int together(int parish, int law, int a, int b, boolean sum) {
        Parish told = now.parishAt(parish);
        Law under = now.lawAt(law);
        if (told == null || under == null || a == b) return NONE;
        if (!told.hasPerson(a) || !told.hasPerson(b)) return NONE;
        choice.placeTwo(told, under, a, b);
        return sum ? choice.value : choice.where;
    }

    public int turned(int parish, int law, int shine, boolean sum) {
        Parish told = now.parishAt(parish);
        Law under = now.lawAt(law);
        if (told == null || under == null || !told.hasShine(shine)) return NONE;
        choice.turnOne(told, under, shine);
        return sum ? choice.value : choice.where;
    }

    public int spoon(int parish, int law, int party, boolean seats) {
        Parish told = now.parishAt(parish);
        Law under = now.lawAt(law);
        if (told == null || under == null || !isParty(party)) return NONE;
        if (told.shines >= MOST_SHINES) return NONE;
        choice.addSpoon(told, under, party);
        if (choice.where == NONE) return NONE;
        return seats ? choice.value : choice.where;
    }

    public int prize(int parish, int law, int who, int couple) {
        Parish told = now.parishAt(parish);
        Law under = now.lawAt(law);
        if (told == null || under == null || !isGame(told)) return NONE;
        if (who < 0 || who > 1 || couple < 0 || couple >= COUPLES) return NONE;
        return choice.prizeOf(told, under, who, couple);
    }

    public int rest(int parish, int law, int k) {
        Parish told = now.parishAt(parish);
        Law under = now.lawAt(law);
        if (told == null || under == null || !isGame(told)) return NONE;
        if (k < NONE) return NONE;
        choice.playGame(told, under);
        return choice.findRest(k);
    }

    public int way(int parish, int from, int to) {
        Parish told = now.parishAt(parish);
        if (told == null || !told.hasSquare(from) || !told.hasSquare(to)) return NONE;
        if (told.cell[from] == WALL || told.cell[to] == WALL) return NONE;
        board.begin(told);
        walk.flood(from);
        return walk.steps[to];
    }

    public int round(int parish, int from, int t) {
        Parish told = now.parishAt(parish);
        if (told == null || !told.hasSquare(from) || told.cell[from] == WALL) return NO_SUCH;
        if (t < NONE || t > MOST_STEPS) return NO_SUCH;
        board.begin(told);
        walk.tour(from);
        return t == NONE ? walk.fewestToAll() : walk.mostWithin(t);
    }

    public int sight(int sight, int what) {
        Sight told = now.sightAt(sight);
        if (told == null) return NO_SUCH;
        if (what == 0) return told.slips;
        if (what < 10 || what >= 10 + MOST_SHINES) return NO_SUCH;
        return told.counts[what - 10];
    }

    public int fits(int parish, int law, int sight, int what) {
        Parish told = now.parishAt(parish);
        Law under = now.lawAt(law);
        Sight by = now.sightAt(sight);
        if (told == null || under == null || by == null) return NO_SUCH;
        if (what < 0 || what > 4 && what < 10) return NO_SUCH;
        fit.measure(told, under, by, what - 10);
        return fit.tell(what);
    }

    public int wind(int parish, int law, int n, boolean under) {
        Parish told = now.parishAt(parish);
        Law by = now.lawAt(law);
        if (told == null || by == null || n < 1 || n > MOST_WINDS) return NONE;
        board.begin(told);
        board.spread(0);
        int over = 0;
        for (int s = 0; s < told.shines; s++) {
            // a POND looks on in all of n cases but one; by COUSINS 0 no other SHINE feels it
            int cases = told.kind[s] == POND ? n - 1 : n;
            over += board.countIn(s, by) * cases;
        }
        int shared = commonDivisor(over, n);
        if (shared < 1) return NONE;
        return under ? n / shared : over / shared;
    }

    public int clan(int parish, int shine) {
        Parish told = now.parishAt(parish);
        if (told == null || !told.hasShine(shine)) return NONE;
        board.begin(told);
        return board.clanOf(shine);
    }

    public int puddle(int parish, int law, boolean many) {
        Parish told = now.parishAt(parish);
        Law under = now.lawAt(law);
        if (told == null || under == null || told.shines == 0) return NONE;
        board.begin(told);
        choice.findPuddle(told, under);
        return many ? choice.value : choice.where;
    }

    public int drawn(int parish, int law, int seed, int n, int what) {
        Parish told = now.parishAt(parish);
        Law under = now.lawAt(law);
        if (told == null || under == null || n < 0 || n > MOST_DEEDS) return NO_SUCH;
        if (what >= 50 && what < 60) return NO_SUCH;
        play.begin(told);
        play.performDrawn(under, seed, n);
        return play.tell(under, what);
    }

    public int alone(int parish, int what) {
        Parish told = now.parishAt(parish);
        if (told == null) return NO_SUCH;
        board.begin(told);
        int deep = board.spread(MOST_SHINES);
        int met = 0;
        int lone = 0;
        for (int s = 0; s < told.shines; s++) {
            met |= board.near[s];
            if (board.near[s] == 0) lone |= 1 << s;
        }
        if (what == 0) return ((1 << told.people) - 1) & ~met;
        if (what == 1) return lone;
        if (what == 2) return board.glances();
        if (what != 3) return NO_SUCH;
        return met == 0 ? NONE : deep;
    }

    public int barred(int parish, int law, boolean sum) {
        Parish told = now.parishAt(parish);
        Law under = now.lawAt(law);
        if (told == null || under == null) return NONE;
        choice.addWall(told, under);
        if (choice.where == NONE) return NONE;
        return sum ? choice.value : choice.where;
    }

    public int known(int parish, int law, int person) {
        Parish told = now.parishAt(parish);
        Law under = now.lawAt(law);
        if (told == null || under == null) return NONE;
        if (person != NONE && !told.hasPerson(person)) return NONE;
        board.begin(told);
        board.spread(under.cousins);
        if (person != NONE) return board.knownIn(person);
        choice.findKnown(told);
        return choice.where;
    }

    public int count(int sort) {
        return sort < 0 || sort >= SORTS ? NO_SUCH : now.number[sort];
    }

    public boolean image(int k) {
        if (k < 0 || k >= IMAGES) return false;
        if (images[k] == null) images[k] = new Told();
        images[k].copyFrom(now);
        return true;
    }

    public boolean again(int k) {
        if (k < 0 || k >= IMAGES || images[k] == null) return false;
        now.copyFrom(images[k]);
        return true;
    }

    private static boolean isParty(int party) {
        return party >= 0 && party < PARTIES;
    }

    private static boolean isGame(Parish parish) {
        return parish.leastShineOf(0) != NONE && parish.leastShineOf(1) != NONE;
    }

    private static int commonDivisor(int a, int b) {
        int x = a;
        int y = b;
        for (int k = 0; k < 64 && y != 0; k++) {
            int left = x % y;
            x = y;
            y = left;
        }
        return x;
    }

    /** All that is told, so that an image is a copy of one object. */
    private static final class Told {
        final int[] number;
        final Parish[] parishes;
        final Law[] laws;
        final Evening[] evenings;
        final Sight[] sights;
        final byte[] tape;
        int length;
        int fault;
        int place;

        Told() {
            number = new int[SORTS];
            parishes = new Parish[MOST_OF_A_SORT];
            laws = new Law[MOST_OF_A_SORT];
            evenings = new Evening[MOST_OF_A_SORT];
            sights = new Sight[MOST_OF_A_SORT];
            for (int k = 0; k < MOST_OF_A_SORT; k++) {
                parishes[k] = new Parish();
                laws[k] = new Law();
                evenings[k] = new Evening();
                sights[k] = new Sight();
            }
            tape = new byte[MOST_BYTES];
            place = NONE;
        }

        void copyFrom(Told other) {
            System.arraycopy(other.number, 0, number, 0, SORTS);
            for (int k = 0; k < MOST_OF_A_SORT; k++) {
                parishes[k].copyFrom(other.parishes[k]);
                laws[k].copyFrom(other.laws[k]);
                evenings[k].copyFrom(other.evenings[k]);
                sights[k].copyFrom(other.sights[k]);
            }
            System.arraycopy(other.tape, 0, tape, 0, MOST_BYTES);
            length = other.length;
            fault = other.fault;
            place = other.place;
        }

        /** The caller has seen that there is room. */
        void addBytes(int four) {
            for (int shift = 24; shift >= 0 && length < MOST_BYTES; shift -= 8) {
                tape[length] = (byte) (four >>> shift);
                length++;
            }
        }

        private boolean has(int sort, int k) {
            return k >= 0 && k < number[sort] && k < MOST_OF_A_SORT;
        }

        Parish parishAt(int k) {
            return has(PARISHES, k) ? parishes[k] : null;
        }

        Law lawAt(int k) {
            return has(LAWS, k) ? laws[k] : null;
        }

        Evening eveningAt(int k) {
            return has(EVENINGS, k) ? evenings[k] : null;
        }

        Sight sightAt(int k) {
            return has(SIGHTS, k) ? sights[k] : null;
        }
    }

    /** A PARISH; until it is settled, places are 8 times row and column, as WIDE may still be told anew. */
    private static final class Parish {
        int wide;
        int high;
        int people;
        int shines;
        final int[] personAt;
        final int[] name;
        final int[] kind;
        final int[] shineAt;
        final int[] face;
        final int[] size;
        final int[] party;
        final int[] cell;
        long walls;

        Parish() {
            personAt = new int[MOST_PEOPLE];
            name = new int[MOST_PEOPLE];
            kind = new int[MOST_SHINES];
            shineAt = new int[MOST_SHINES];
            face = new int[MOST_SHINES];
            size = new int[MOST_SHINES];
            party = new int[MOST_SHINES];
            cell = new int[MOST_SQUARES];
            wide = 6;
            high = 6;
        }

        void clear() {
            wide = 6;
            high = 6;
            people = 0;
            shines = 0;
            walls = 0L;
            Arrays.fill(cell, FREE);
        }

        void copyFrom(Parish other) {
            wide = other.wide;
            high = other.high;
            people = other.people;
            shines = other.shines;
            walls = other.walls;
            System.arraycopy(other.personAt, 0, personAt, 0, MOST_PEOPLE);
            System.arraycopy(other.name, 0, name, 0, MOST_PEOPLE);
            System.arraycopy(other.kind, 0, kind, 0, MOST_SHINES);
            System.arraycopy(other.shineAt, 0, shineAt, 0, MOST_SHINES);
            System.arraycopy(other.face, 0, face, 0, MOST_SHINES);
            System.arraycopy(other.size, 0, size, 0, MOST_SHINES);
            System.arraycopy(other.party, 0, party, 0, MOST_SHINES);
            System.arraycopy(other.cell, 0, cell, 0, MOST_SQUARES);
        }

        void addWall(int[] number) {
            walls |= 1L << (8 * number[1] + number[0]);
        }

        void addPerson(int[] number) {
            if (people >= MOST_PEOPLE) return;
            personAt[people] = 8 * number[1] + number[0];
            name[people] = number[2];
            people++;
        }

        void addShine(int itsKind, int[] number) {
            if (shines >= MOST_SHINES) return;
            kind[shines] = itsKind;
            shineAt[shines] = 8 * number[1] + number[0];
            face[shines] = number[2];
            size[shines] = number[3];
            party[shines] = number[4];
            shines++;
        }

        /** Puts all on its SQUARE: the FAULT of that, or 0. */
        int settle() {
            if (isAnyOutside()) return 4;
            for (int spot = 0; spot < 64; spot++) {
                if ((walls >>> spot & 1L) != 0L) cell[squareOf(spot)] = WALL;
            }
            for (int p = 0; p < people; p++) {
                personAt[p] = squareOf(personAt[p]);
                if (cell[personAt[p]] != FREE) return 5;
                cell[personAt[p]] = PERSON + p;
            }
            for (int s = 0; s < shines; s++) {
                shineAt[s] = squareOf(shineAt[s]);
                if (cell[shineAt[s]] != FREE) return 5;
                cell[shineAt[s]] = SHINE + s;
            }
            return 0;
        }

        private boolean isAnyOutside() {
            for (int spot = 0; spot < 64; spot++) {
                if ((walls >>> spot & 1L) != 0L && isOutside(spot)) return true;
            }
            for (int p = 0; p < people; p++) {
                if (isOutside(personAt[p])) return true;
            }
            for (int s = 0; s < shines; s++) {
                if (isOutside(shineAt[s])) return true;
            }
            return false;
        }

        private boolean isOutside(int spot) {
            return (spot & 7) >= wide || spot >> 3 >= high;
        }

        private int squareOf(int spot) {
            return wide * (spot >> 3) + (spot & 7);
        }

        boolean hasSquare(int square) {
            return square >= 0 && square < wide * high;
        }

        boolean hasPerson(int person) {
            return person >= 0 && person < people;
        }

        boolean hasShine(int shine) {
            return shine >= 0 && shine < shines;
        }

        int leastShineOf(int ofParty) {
            for (int s = 0; s < shines; s++) {
                if (party[s] == ofParty) return s;
            }
            return NONE;
        }

        int tell(int what) {
            if (what == 0) return wide;
            if (what == 1) return high;
            if (what == 2) return people;
            if (what == 3) return shines;
            if (what < 10 || what >= 80) return NONE;
            int row = what / 10;
            int k = what % 10;
            if (row <= 2) {
                if (!hasPerson(k)) return NONE;
                return row == 1 ? personAt[k] : name[k];
            }
            return hasShine(k) ? tellShine(row, k) : NONE;
        }

        private int tellShine(int row, int s) {
            if (row == 3) return kind[s];
            if (row == 4) return shineAt[s];
            if (row == 5) return face[s];
            return row == 6 ? size[s] : party[s];
        }
    }

    /** A LAW, and how it gives SEATS. */
    private static final class Law {
        int cousins;
        boolean twins;
        int soup;
        int seats;
        int way;
        int tax;

        Law() {
            twins = true;
            seats = 5;
            tax = 1;
        }

        void clear() {
            cousins = 0;
            twins = true;
            soup = 0;
            seats = 5;
            way = 0;
            tax = 1;
        }

        void copyFrom(Law other) {
            cousins = other.cousins;
            twins = other.twins;
            soup = other.soup;
            seats = other.seats;
            way = other.way;
            tax = other.tax;
        }

        boolean isSoup(int kind) {
            return (soup >>> kind & 1) != 0;
        }

        int tell(int what) {
            if (what == 0) return cousins;
            if (what == 1) return twins ? 1 : 0;
            if (what == 2) return soup;
            if (what == 3) return seats;
            if (what == 4) return way;
            return what == 5 ? tax : NONE;
        }

        void share(int[] totals, int[] given) {
            int all = 0;
            for (int p = 0; p < PARTIES; p++) {
                all += totals[p];
                given[p] = 0;
            }
            if (all < 1) return;
            if (way == 2) {
                shareByRemainders(totals, given, all);
                return;
            }
            for (int k = 0; k < seats; k++) given[nextParty(totals, given)]++;
        }

        private int nextParty(int[] totals, int[] given) {
            int best = 0;
            for (int p = 1; p < PARTIES; p++) {
                // quotients are compared crosswise, as cut ones would be alike too often
                if (totals[p] * divisor(given[best]) > totals[best] * divisor(given[p])) best = p;
            }
            return best;
        }

        private int divisor(int had) {
            return way == 1 ? 2 * had + 1 : had + 1;
        }

        private void shareByRemainders(int[] totals, int[] given, int all) {
            if (all < 1) return;
            int left = seats;
            for (int p = 0; p < PARTIES; p++) {
                given[p] = totals[p] * seats / all;
                left -= given[p];
            }
            int taken = 0;
            for (int k = 0; k < left; k++) {
                int best = NONE;
                int most = NONE;
                for (int p = 0; p < PARTIES; p++) {
                    int remainder = totals[p] * seats % all;
                    if ((taken >> p & 1) == 0 && remainder > most) {
                        most = remainder;
                        best = p;
                    }
                }
                if (best == NONE) return;
                given[best]++;
                taken |= 1 << best;
            }
        }
    }

    private static final class Evening {
        int deeds;
        final int[] kind;
        final int[] first;
        final int[] second;

        Evening() {
            kind = new int[MOST_DEEDS];
            first = new int[MOST_DEEDS];
            second = new int[MOST_DEEDS];
        }

        void copyFrom(Evening other) {
            deeds = other.deeds;
            System.arraycopy(other.kind, 0, kind, 0, MOST_DEEDS);
            System.arraycopy(other.first, 0, first, 0, MOST_DEEDS);
            System.arraycopy(other.second, 0, second, 0, MOST_DEEDS);
        }

        void add(int itsKind, int[] number) {
            if (deeds >= MOST_DEEDS) return;
            kind[deeds] = itsKind;
            first[deeds] = itsKind == COUNT ? NONE : number[0];
            second[deeds] = itsKind == GO || itsKind == TURN ? number[1] : NONE;
            deeds++;
        }
    }

    private static final class Sight {
        int slips;
        final int[] counts;

        Sight() {
            counts = new int[MOST_SHINES];
            Arrays.fill(counts, NONE);
        }

        void clear() {
            slips = 0;
            Arrays.fill(counts, NONE);
        }

        void copyFrom(Sight other) {
            slips = other.slips;
            System.arraycopy(other.counts, 0, counts, 0, MOST_SHINES);
        }
    }

    /** Reads a text into a draft of its sort, so that a FAULT leaves all else as it was. */
    private static final class Reader {
        private static final int LINE_SIZE = 0;
        private static final int LINE_WALL = 1;
        private static final int LINE_PERSON = 2;
        private static final int LINE_POND = 3;
        private static final int LINE_EYE = 6;
        private static final int LINE_COUSINS = 7;
        private static final int LINE_SEATS = 8;
        private static final int LINE_WAY = 9;
        private static final int LINE_TAX = 10;
        private static final int LINE_TWINS = 11;
        private static final int LINE_SOUP = 12;
        private static final int LINE_GO = 13;
        private static final int LINE_TOLD = 18;
        private static final int LINE_SLIPS = 19;
        private static final int MOST_NUMBERS = 5;

        /** Where the lines of each sort begin, and where the last sort's end. */
        private static final int[] FIRST_LINE = {0, 7, 13, 18, 20};
        private static final int[] NUMBERS = {2, 2, 3, 5, 5, 5, 5, 1, 1, 1, 1, 0, 0, 2, 2, 1, 1, 0, 2, 1};
        private static final int[] GREATEST = {
            8, 8, 0, 0, 0,
            7, 7, 0, 0, 0,
            7, 7, 9, 0, 0,
            7, 7, 7, 9, 3,
            7, 7, 7, 9, 3,
            7, 7, 7, 9, 3,
            7, 7, 7, 9, 3,
            9, 0, 0, 0, 0,
            20, 0, 0, 0, 0,
            2, 0, 0, 0, 0,
            9, 0, 0, 0, 0,
            0, 0, 0, 0, 0,
            0, 0, 0, 0, 0,
            7, 7, 0, 0, 0,
            7, 7, 0, 0, 0,
            7, 0, 0, 0, 0,
            7, 0, 0, 0, 0,
            0, 0, 0, 0, 0,
            7, 9, 0, 0, 0,
            9, 0, 0, 0, 0
        };

        private static final int TOKEN_END = 0;
        private static final int TOKEN_WORD = 1;
        private static final int TOKEN_NUMBER = 2;
        private static final int TOKEN_STROKE = 3;
        private static final int TOKEN_BAD = 4;

        final Parish parish;
        final Law law;
        final Evening evening;
        final Sight sight;
        int fault;
        int place;
        private byte[] tape;
        private int length;
        private int token;
        private int from;
        private int to;
        private int soupKind;
        private final int[] number;

        Reader() {
            parish = new Parish();
            law = new Law();
            evening = new Evening();
            sight = new Sight();
            number = new int[MOST_NUMBERS];
            tape = new byte[0];
        }

        void read(byte[] bytes, int many, int sort) {
            tape = bytes;
            length = Math.min(many, bytes.length);
            to = 0;
            fault = 0;
            place = NONE;
            parish.clear();
            law.clear();
            evening.deeds = 0;
            sight.clear();
            nextToken();
            for (int k = 0; k < MOST_BYTES && token != TOKEN_END && fault != 1; k++) readLine(sort);
            if (fault == 0 && sort == PARISHES) mark(parish.settle(), length);
        }

        private void readLine(int sort) {
            int line = lineOf(sort);
            if (line == NONE) {
                refuse();
                return;
            }
            if (isFull(line)) mark(3, from);
            nextToken();
            if (!readNumbers(line)) {
                refuse();
                return;
            }
            if (line == LINE_SOUP) {
                soupKind = lineOf(PARISHES) - LINE_POND;
                if (soupKind < POND || soupKind > EYE) {
                    refuse();
                    return;
                }
                nextToken();
            }
            if (token != TOKEN_STROKE) {
                refuse();
                return;
            }
            // behind a FAULT the draft is of no use, and its numbers need not be such as can be
            if (fault == 0) keep(line);
            nextToken();
        }

        private boolean readNumbers(int line) {
            for (int k = 0; k < NUMBERS[line]; k++) {
                if (token != TOKEN_NUMBER) return false;
                number[k] = numberOfToken();
                if (number[k] < least(line, k) || number[k] > GREATEST[MOST_NUMBERS * line + k]) mark(2, from);
                nextToken();
            }
            return true;
        }

        private static int least(int line, int k) {
            if (line == LINE_SIZE) return 2;
            if (line == LINE_SEATS) return 1;
            return line >= LINE_POND && line <= LINE_EYE && k == 3 ? 1 : 0;
        }

        private boolean isFull(int line) {
            if (line == LINE_PERSON) return parish.people >= MOST_PEOPLE;
            if (line >= LINE_POND && line <= LINE_EYE) return parish.shines >= MOST_SHINES;
            return line >= LINE_GO && line < LINE_TOLD && evening.deeds >= MOST_DEEDS;
        }

        private void keep(int line) {
            if (line <= LINE_EYE) keepOfParish(line);
            else if (line <= LINE_SOUP) keepOfLaw(line);
            else if (line < LINE_TOLD) evening.add(line - LINE_GO, number);
            else if (line == LINE_SLIPS) sight.slips = number[0];
            else if (number[0] >= 0 && number[0] < MOST_SHINES) sight.counts[number[0]] = number[1];
        }

        private void keepOfParish(int line) {
            if (line == LINE_SIZE) {
                parish.wide = number[0];
                parish.high = number[1];
            } else if (line == LINE_WALL) {
                parish.addWall(number);
            } else if (line == LINE_PERSON) {
                parish.addPerson(number);
            } else {
                parish.addShine(line - LINE_POND, number);
            }
        }

        private void keepOfLaw(int line) {
            if (line == LINE_COUSINS) law.cousins = number[0];
            if (line == LINE_SEATS) law.seats = number[0];
            if (line == LINE_WAY) law.way = number[0];
            if (line == LINE_TAX) law.tax = number[0];
            if (line == LINE_TWINS) law.twins = false;
            if (line == LINE_SOUP) law.soup |= 1 << soupKind;
        }

        /** A FAULT of the text's sense: texts are read from their beginning, so the first one stays. */
        private void mark(int which, int at) {
            if (fault != 0 || which == 0) return;
            fault = which;
            place = at;
        }

        /** FAULT 1 goes before all others, wherever they are. */
        private void refuse() {
            fault = 1;
            place = from;
        }

        private int lineOf(int sort) {
            if (token != TOKEN_WORD) return NONE;
            for (int line = FIRST_LINE[sort]; line < FIRST_LINE[sort + 1]; line++) {
                if (isToken(wordOf(line))) return line;
            }
            return NONE;
        }

        private boolean isToken(String word) {
            if (word.length() != to - from) return false;
            for (int k = 0; k < word.length(); k++) {
                if (tape[from + k] != word.charAt(k)) return false;
            }
            return true;
        }

        private static String wordOf(int line) {
            switch (line) {
                case LINE_SIZE: return "size";
                case LINE_WALL: return "wall";
                case LINE_PERSON: return "person";
                case LINE_POND: return "pond";
                case LINE_POND + SPOON: return "spoon";
                case LINE_POND + MIRROR: return "mirror";
                case LINE_EYE: return "eye";
                case LINE_COUSINS: return "cousins";
                case LINE_SEATS: return "seats";
                case LINE_WAY: return "way";
                case LINE_TAX: return "tax";
                case LINE_TWINS: return "twins";
                case LINE_SOUP: return "soup";
                case LINE_GO: return "go";
                case LINE_GO + TURN: return "turn";
                case LINE_GO + STIR: return "stir";
                case LINE_GO + CALM: return "calm";
                case LINE_GO + COUNT: return "count";
                case LINE_TOLD: return "told";
                case LINE_SLIPS: return "slips";
                default: return "";
            }
        }

        private void nextToken() {
            int at = to;
            while (at < length && (tape[at] == 10 || tape[at] == 32)) at++;
            from = at;
            if (at >= length) {
                token = TOKEN_END;
            } else if (isLetter(at)) {
                while (at < length && isLetter(at)) at++;
                token = TOKEN_WORD;
            } else if (isDigit(at)) {
                while (at < length && isDigit(at)) at++;
                token = at - from <= 2 ? TOKEN_NUMBER : TOKEN_BAD;
            } else {
                token = tape[at] == ';' ? TOKEN_STROKE : TOKEN_BAD;
                at++;
            }
            to = at;
        }

        private boolean isLetter(int at) {
            return tape[at] >= 'a' && tape[at] <= 'z';
        }

        private boolean isDigit(int at) {
            return tape[at] >= '0' && tape[at] <= '9';
        }

        private int numberOfToken() {
            int value = 0;
            for (int at = from; at < to; at++) value = 10 * value + tape[at] - '0';
            return value;
        }
    }

    /** A PARISH that may be changed, with what each SHINE meets kept true to every change. */
    private static final class Board {
        private static final int[] RIGHT = {0, 1, 1, 1, 0, -1, -1, -1};
        private static final int[] DOWN = {-1, -1, 0, 1, 1, 1, 0, -1};

        final Parish here;
        final int[] near;
        final int[] totals;
        private final int[] seats;
        private final int[] next;
        private int wide;
        private int high;
        private int stirred;
        private final int[] seen;
        private final int[] looked;
        private final long[] reach;
        private final int[] wider;

        Board() {
            here = new Parish();
            near = new int[MOST_SHINES];
            totals = new int[PARTIES];
            seats = new int[PARTIES];
            next = new int[DIRECTIONS * MOST_SQUARES];
            seen = new int[MOST_SHINES];
            looked = new int[MOST_SHINES];
            reach = new long[MOST_SHINES];
            wider = new int[MOST_SHINES];
        }

        void begin(Parish parish) {
            here.copyFrom(parish);
            if (wide != here.wide || high != here.high) drawSteps();
            stirred = 0;
            for (int s = 0; s < here.shines; s++) look(s);
        }

        private void drawSteps() {
            wide = here.wide;
            high = here.high;
            for (int row = 0; row < high; row++) {
                for (int column = 0; column < wide; column++) drawStepsFrom(column, row);
            }
        }

        private void drawStepsFrom(int column, int row) {
            for (int d = 0; d < DIRECTIONS; d++) {
                int x = column + RIGHT[d];
                int y = row + DOWN[d];
                boolean inside = x >= 0 && x < wide && y >= 0 && y < high;
                next[MOST_SQUARES * d + wide * row + column] = inside ? wide * y + x : NONE;
            }
        }

        int squares() {
            return here.wide * here.high;
        }

        boolean isFree(int square) {
            return here.cell[square] == FREE;
        }

        int stepFrom(int square, int direction) {
            return next[MOST_SQUARES * direction + square];
        }

        /** Only SHINES whose looks come to this SQUARE can be changed by what is on it. */
        void lay(int square, int thing) {
            here.cell[square] = thing;
            for (int s = 0; s < here.shines; s++) {
                if ((reach[s] >>> square & 1L) != 0L) look(s);
            }
        }

        boolean isInSight(int square) {
            for (int s = 0; s < here.shines; s++) {
                if ((reach[s] >>> square & 1L) != 0L) return true;
            }
            return false;
        }

        void face(int shine, int direction) {
            here.face[shine] = direction;
            look(shine);
        }

        boolean isStirred(int shine) {
            return (stirred >>> shine & 1) != 0;
        }

        void stirOrCalm(int shine) {
            stirred ^= 1 << shine;
            look(shine);
        }

        /** A place for one SHINE more, which the caller lays and turns. */
        int addSpoon(int ofParty) {
            int s = here.shines;
            if (s >= MOST_SHINES) return NONE;
            here.kind[s] = SPOON;
            here.size[s] = 9;
            here.party[s] = ofParty;
            here.shines = s + 1;
            reach[s] = 0L;
            return s;
        }

        boolean opens(int shine, int direction) {
            int kind = here.kind[shine];
            int turn = (direction - here.face[shine]) & 7;
            if (kind == POND || turn == 0) return true;
            if (kind == MIRROR) return turn == 1 || turn == 7;
            return kind == EYE && turn == 4;
        }

        /** What is first met, WALL at the PARISH's end too; the SQUARES on the way come to its reach. */
        int meets(int shine, int direction) {
            int at = stepFrom(here.shineAt[shine], direction);
            for (int k = 0; k < 8 && at != NONE; k++) {
                reach[shine] |= 1L << at;
                if (here.cell[at] != FREE) return here.cell[at];
                at = stepFrom(at, direction);
            }
            return WALL;
        }

        private void look(int shine) {
            seen[shine] = 0;
            looked[shine] = 0;
            reach[shine] = 0L;
            if (isStirred(shine)) return;
            for (int d = 0; d < DIRECTIONS; d++) {
                if (!opens(shine, d)) continue;
                int thing = meets(shine, d);
                if (thing >= SHINE) looked[shine] |= 1 << (thing - SHINE);
                else if (thing >= PERSON) seen[shine] |= 1 << (thing - PERSON);
            }
        }

        /** Who is near: of a DEGREE up to this one; the DEGREE from which on nobody new came. */
        int spread(int cousins) {
            for (int s = 0; s < here.shines; s++) near[s] = seen[s];
            int degree = 0;
            while (degree < cousins && widen()) degree++;
            return degree;
        }

        private boolean widen() {
            boolean changed = false;
            for (int s = 0; s < here.shines; s++) {
                int people = near[s];
                for (int t = 0; t < here.shines; t++) {
                    if ((looked[s] >>> t & 1) != 0) people |= near[t];
                }
                wider[s] = people;
                if (people != near[s]) changed = true;
            }
            System.arraycopy(wider, 0, near, 0, here.shines);
            return changed;
        }

        int degreeOf(int shine, int person) {
            spread(0);
            for (int degree = 0; degree < MOST_SHINES; degree++) {
                if ((near[shine] >>> person & 1) != 0) return degree;
                widen();
            }
            return NONE;
        }

        /** COUNT, were it never so small; who is near must be known. */
        int headsIn(int shine, Law law) {
            if (law.isSoup(here.kind[shine])) return 0;
            if (law.twins) return Integer.bitCount(near[shine]);
            int names = 0;
            for (int p = 0; p < here.people; p++) {
                if ((near[shine] >>> p & 1) != 0) names |= 1 << here.name[p];
            }
            return Integer.bitCount(names);
        }

        int countIn(int shine, Law law) {
            return Math.min(headsIn(shine, law), here.size[shine]);
        }

        int sumBy(Law law) {
            spread(law.cousins);
            int sum = 0;
            for (int s = 0; s < here.shines; s++) sum += countIn(s, law);
            return sum;
        }

        void addTotals(Law law) {
            spread(law.cousins);
            Arrays.fill(totals, 0);
            for (int s = 0; s < here.shines; s++) totals[here.party[s]] += countIn(s, law);
        }

        int seatsOf(int party, Law law) {
            addTotals(law);
            law.share(totals, seats);
            return seats[party];
        }

        int knownIn(int person) {
            int many = 0;
            for (int s = 0; s < here.shines; s++) many += near[s] >>> person & 1;
            return many;
        }

        int clanOf(int shine) {
            int clan = 1 << shine;
            for (int k = 0; k < MOST_SHINES; k++) {
                for (int s = 0; s < here.shines; s++) {
                    if ((clan >>> s & 1) != 0) clan |= looked[s];
                }
            }
            return clan;
        }

        int glances() {
            int many = 0;
            for (int s = 0; s < here.shines; s++) {
                for (int t = 0; t < s; t++) many += looked[s] >>> t & looked[t] >>> s & 1;
            }
            return many;
        }
    }

    /** An EVENING as it goes, told or drawn. */
    private static final class Play {
        private final Board board;
        private int counts;
        private final int[] taxed;
        private final int[] gained;
        private int seed;

        Play(Board itsBoard) {
            board = itsBoard;
            taxed = new int[MOST_PEOPLE];
            gained = new int[MOST_SHINES];
        }

        void begin(Parish parish) {
            board.begin(parish);
            counts = 0;
            Arrays.fill(taxed, 0);
            Arrays.fill(gained, 0);
        }

        /** The first n DEEDS, or those before the first that can't be: how many. */
        int perform(Evening evening, Law law, int n) {
            for (int k = 0; k < n && k < evening.deeds; k++) {
                if (!does(evening.kind[k], evening.first[k], evening.second[k], law)) return k;
            }
            return Math.min(n, evening.deeds);
        }

        private boolean does(int kind, int who, int direction, Law law) {
            if (kind == COUNT) {
                countAll(law);
                return true;
            }
            if (kind == GO) return go(who, direction);
            if (!board.here.hasShine(who)) return false;
            if (kind == TURN) {
                board.face(who, direction);
                return true;
            }
            if (board.isStirred(who) != (kind == CALM)) return false;
            board.stirOrCalm(who);
            return true;
        }

        private boolean go(int person, int direction) {
            if (!board.here.hasPerson(person)) return false;
            int from = board.here.personAt[person];
            int to = board.stepFrom(from, direction);
            if (to == NONE || !board.isFree(to)) return false;
            board.lay(from, FREE);
            board.lay(to, PERSON + person);
            board.here.personAt[person] = to;
            return true;
        }

        private void countAll(Law law) {
            counts++;
            board.spread(law.cousins);
            for (int s = 0; s < board.here.shines; s++) {
                gained[s] += board.countIn(s, law);
                if (law.isSoup(board.here.kind[s])) continue;
                for (int p = 0; p < board.here.people; p++) {
                    if ((board.near[s] >>> p & 1) != 0) taxed[p] += law.tax;
                }
            }
        }

        void performDrawn(Law law, int itsSeed, int n) {
            seed = itsSeed;
            for (int k = 0; k < n; k++) {
                int lot = draw(4);
                if (lot == 3) {
                    countAll(law);
                } else if (lot == 2) {
                    turnDrawn();
                } else {
                    goDrawn();
                }
            }
        }

        private void goDrawn() {
            if (board.here.people == 0) return;
            int person = draw(board.here.people);
            int direction = draw(DIRECTIONS);
            go(person, direction);
        }

        private void turnDrawn() {
            if (board.here.shines == 0) return;
            int shine = draw(board.here.shines);
            int direction = draw(DIRECTIONS);
            board.face(shine, direction);
        }

        private int draw(int below) {
            seed = seed * 1103515245 + 12345;
            return below < 1 ? 0 : (seed >>> 16) % below;
        }

        int tell(Law law, int what) {
            if (what == 0) return counts;
            if (what == 1) return board.sumBy(law);
            if (what < 10 || what >= 70) return NO_SUCH;
            int row = what / 10;
            int k = what % 10;
            if (row <= 2) {
                if (!board.here.hasPerson(k)) return NO_SUCH;
                return row == 1 ? board.here.personAt[k] : taxed[k];
            }
            return board.here.hasShine(k) ? tellShine(law, row, k) : NO_SUCH;
        }

        private int tellShine(Law law, int row, int s) {
            if (row == 3) return board.here.face[s];
            if (row == 4) return gained[s];
            if (row == 5) return board.isStirred(s) ? 1 : 0;
            board.spread(law.cousins);
            return board.countIn(s, law);
        }
    }

    /** The best of several: trials on a board, of like ones the first. */
    private static final class Choice {
        int value;
        int where;
        private final int[] prizes;
        private final Board board;

        Choice(Board itsBoard) {
            board = itsBoard;
            prizes = new int[2 * COUPLES];
            where = NONE;
        }

        private void begin() {
            value = 0;
            where = NONE;
        }

        private void offer(int itsValue, int itsWhere, boolean fewest) {
            boolean better = fewest ? itsValue < value : itsValue > value;
            if (where != NONE && !better) return;
            value = itsValue;
            where = itsWhere;
        }

        void placeOne(Parish parish, Law law, int person, boolean fewest) {
            board.begin(parish);
            begin();
            board.lay(parish.personAt[person], FREE);
            int without = board.sumBy(law);
            for (int square = 0; square < board.squares(); square++) {
                if (!board.isFree(square)) continue;
                offer(sumWith(person, square, law, without), square, fewest);
            }
        }

        /** One whom no SHINE comes to is neither seen nor in the way. */
        private int sumWith(int person, int square, Law law, int without) {
            if (!board.isInSight(square)) return without;
            board.lay(square, PERSON + person);
            int sum = board.sumBy(law);
            board.lay(square, FREE);
            return sum;
        }

        void placeTwo(Parish parish, Law law, int a, int b) {
            board.begin(parish);
            begin();
            board.lay(parish.personAt[a], FREE);
            board.lay(parish.personAt[b], FREE);
            for (int first = 0; first < board.squares(); first++) {
                if (!board.isFree(first)) continue;
                board.lay(first, PERSON + a);
                int without = board.sumBy(law);
                for (int other = 0; other < board.squares(); other++) {
                    if (!board.isFree(other)) continue;
                    offer(sumWith(b, other, law, without), 64 * first + other, false);
                }
                board.lay(first, FREE);
            }
        }

        void turnOne(Parish parish, Law law, int shine) {
            board.begin(parish);
            begin();
            for (int face = 0; face < DIRECTIONS; face++) {
                board.face(shine, face);
                offer(board.sumBy(law), face, false);
            }
        }

        void addSpoon(Parish parish, Law law, int party) {
            board.begin(parish);
            begin();
            int spoon = board.addSpoon(party);
            if (spoon == NONE) return;
            for (int square = 0; square < board.squares(); square++) {
                if (!board.isFree(square)) continue;
                board.here.shineAt[spoon] = square;
                board.lay(square, SHINE + spoon);
                for (int face = 0; face < DIRECTIONS; face++) {
                    board.face(spoon, face);
                    offer(board.seatsOf(party, law), 8 * square + face, false);
                }
                board.lay(square, FREE);
            }
        }

        void addWall(Parish parish, Law law) {
            board.begin(parish);
            begin();
            for (int square = 0; square < board.squares(); square++) {
                if (!board.isFree(square)) continue;
                board.lay(square, WALL);
                offer(board.sumBy(law), square, true);
                board.lay(square, FREE);
            }
        }

        /** Who is near must be known to the board. */
        void findKnown(Parish parish) {
            begin();
            for (int p = 0; p < parish.people; p++) offer(board.knownIn(p), p, false);
        }

        void findPuddle(Parish parish, Law law) {
            begin();
            board.spread(law.cousins);
            for (int s = 0; s < parish.shines; s++) offer(board.headsIn(s, law), s, false);
        }

        /** PRIZES of both by all couples; both must have a SHINE. */
        void playGame(Parish parish, Law law) {
            board.begin(parish);
            int mine = parish.leastShineOf(0);
            int yours = parish.leastShineOf(1);
            if (mine == NONE || yours == NONE) return;
            for (int couple = 0; couple < COUPLES; couple++) {
                turnCouple(law, mine, yours, couple);
                prizes[2 * couple] = board.totals[0];
                prizes[2 * couple + 1] = board.totals[1];
            }
        }

        int prizeOf(Parish parish, Law law, int who, int couple) {
            board.begin(parish);
            int mine = parish.leastShineOf(0);
            int yours = parish.leastShineOf(1);
            if (mine == NONE || yours == NONE) return NONE;
            turnCouple(law, mine, yours, couple);
            return board.totals[who];
        }

        private void turnCouple(Law law, int mine, int yours, int couple) {
            board.face(mine, couple >> 3);
            board.face(yours, couple & 7);
            board.addTotals(law);
        }

        /** The k-th REST, or how many there are, for k NONE. */
        int findRest(int k) {
            int many = 0;
            for (int couple = 0; couple < COUPLES; couple++) {
                if (!isRest(couple)) continue;
                if (many == k) return couple;
                many++;
            }
            return k == NONE ? many : NONE;
        }

        private boolean isRest(int couple) {
            for (int face = 0; face < DIRECTIONS; face++) {
                int mineTurned = 8 * face + (couple & 7);
                int yoursTurned = (couple & 56) + face;
                if (prizes[2 * mineTurned] > prizes[2 * couple]) return false;
                if (prizes[2 * yoursTurned + 1] > prizes[2 * couple + 1]) return false;
            }
            return true;
        }
    }

    /** The enumerator's steps. */
    private static final class Walk {
        final int[] steps;
        private final Board board;
        private final int[] queue;
        private final int[] between;
        private final int[] best;

        Walk(Board itsBoard) {
            board = itsBoard;
            steps = new int[MOST_SQUARES];
            queue = new int[MOST_SQUARES];
            between = new int[MOST_SHINES * MOST_SHINES];
            best = new int[(1 << MOST_SHINES) * MOST_SHINES];
        }

        /** The steps from a SQUARE that is no WALL to all others, NONE where he can't come. */
        void flood(int from) {
            Arrays.fill(steps, NONE);
            steps[from] = 0;
            queue[0] = from;
            int known = 1;
            for (int k = 0; k < known && k < MOST_SQUARES; k++) {
                int at = queue[k];
                for (int d = 0; d < DIRECTIONS; d += 2) {
                    int to = board.stepFrom(at, d);
                    if (to == NONE || steps[to] != NONE || board.here.cell[to] == WALL) continue;
                    if (known >= MOST_SQUARES) continue;
                    steps[to] = steps[at] + 1;
                    queue[known] = to;
                    known++;
                }
            }
        }

        /** The fewest steps by sets of SHINES he has come onto and the last of these. */
        void tour(int from) {
            int shines = board.here.shines;
            Arrays.fill(best, NONE);
            flood(from);
            for (int s = 0; s < shines; s++) best[8 * (1 << s) + s] = steps[board.here.shineAt[s]];
            for (int s = 0; s < shines; s++) {
                flood(board.here.shineAt[s]);
                for (int t = 0; t < shines; t++) between[8 * s + t] = steps[board.here.shineAt[t]];
            }
            for (int set = 1; set < 1 << shines; set++) {
                for (int last = 0; last < shines; last++) {
                    if (best[8 * set + last] != NONE) goOn(set, last);
                }
            }
        }

        private void goOn(int set, int last) {
            for (int s = 0; s < board.here.shines; s++) {
                if ((set >>> s & 1) != 0 || between[8 * last + s] == NONE) continue;
                int way = best[8 * set + last] + between[8 * last + s];
                int place = 8 * (set | 1 << s) + s;
                if (best[place] == NONE || way < best[place]) best[place] = way;
            }
        }

        private int fewestTo(int set) {
            if (set == 0) return 0;
            int fewest = NONE;
            for (int last = 0; last < board.here.shines; last++) {
                int way = best[8 * set + last];
                if (way != NONE && (fewest == NONE || way < fewest)) fewest = way;
            }
            return fewest;
        }

        int fewestToAll() {
            return fewestTo((1 << board.here.shines) - 1);
        }

        int mostWithin(int t) {
            int most = 0;
            for (int set = 1; set < 1 << board.here.shines; set++) {
                int way = fewestTo(set);
                if (way != NONE && way <= t) most = Math.max(most, Integer.bitCount(set));
            }
            return most;
        }
    }

    /** Who was there, by a SIGHT. */
    private static final class Fit {
        private static final int MOST_COUNTS = 10;

        private final Board board;
        private int number;
        private int sure;
        private int absent;
        private int fewest;
        private int asked;
        private final int[] alike;

        Fit(Board itsBoard) {
            board = itsBoard;
            alike = new int[MOST_SHINES * MOST_COUNTS];
        }

        /** All SETS are tried; the k-th that fits is kept. */
        void measure(Parish parish, Law law, Sight sight, int k) {
            int all = (1 << parish.people) - 1;
            board.begin(parish);
            number = 0;
            sure = all;
            absent = all;
            fewest = NONE;
            asked = NO_SUCH;
            Arrays.fill(alike, 0);
            int there = all;
            for (int set = 0; set <= all; set++) {
                change(parish, there ^ set, set);
                there = set;
                board.spread(law.cousins);
                int slips = differences(law, sight);
                if (fewest == NONE || slips < fewest) fewest = slips;
                if (slips > sight.slips) continue;
                if (number == k) asked = set;
                number++;
                sure &= set;
                absent &= ~set;
                noteCounts(law);
            }
        }

        private void change(Parish parish, int others, int set) {
            for (int p = 0; p < parish.people; p++) {
                if ((others >>> p & 1) == 0) continue;
                board.lay(parish.personAt[p], (set >>> p & 1) != 0 ? PERSON + p : FREE);
            }
        }

        private int differences(Law law, Sight sight) {
            int sum = 0;
            for (int s = 0; s < board.here.shines; s++) {
                if (sight.counts[s] == NONE) continue;
                sum += Math.abs(sight.counts[s] - board.countIn(s, law));
            }
            return sum;
        }

        private void noteCounts(Law law) {
            for (int s = 0; s < board.here.shines; s++) {
                int count = board.countIn(s, law);
                if (count < MOST_COUNTS) alike[MOST_COUNTS * s + count]++;
            }
        }

        private int nextShine() {
            int best = NONE;
            int least = 0;
            for (int s = 0; s < board.here.shines; s++) {
                int most = 0;
                for (int c = 0; c < MOST_COUNTS; c++) most = Math.max(most, alike[MOST_COUNTS * s + c]);
                if (best != NONE && most >= least) continue;
                best = s;
                least = most;
            }
            return best;
        }

        int tell(int what) {
            if (what == 0) return number;
            if (what == 3) return fewest;
            if (what >= 10) return asked;
            if (number == 0) return NONE;
            if (what == 1) return sure;
            if (what == 2) return absent;
            return what == 4 ? nextShine() : NO_SUCH;
        }
    }
}
