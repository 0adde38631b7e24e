/**
 * Amounts as people of several lands type them: numbers, money and days, read by lands,
 * shown by lands, pasted as rows, and numbers in words. The words in capitals in the
 * comments (LAND, THE LINE, SHOWN, ..) are the terms of the document.
 */
public final class TypedAmounts {
    /** There is none. */
    public static final int NONE = -1;

    private static final long LEAST_LONG = 0x8000000000000000L;
    private static final long GREATEST_LONG = 0x7fffffffffffffffL;

    private static final int NUMBER = 0;
    private static final int MONEY = 1;
    private static final int DAY = 2;
    private static final int KINDS = 3;

    private static final int READ = 0;
    private static final int OPEN = 1;
    private static final int DEAD = 2;

    private static final int SURE_STATE = 0;
    private static final int OPEN_STATE = 1;
    private static final int DOUBT_STATE = 2;
    private static final int WRONG_STATE = 3;

    private static final int MOST_LANDS = 6;
    private static final int MOST_BYTES = 60;
    private static final int MOST_ROWS = 30;
    private static final int MOST_IMAGES = 3;
    /** The longest WORDS, those of 373373373 and its like, have this many bytes. */
    private static final int MOST_SHOWN = 100;

    private static final int MOST_WHOLE_DIGITS = 9;
    private static final int MOST_PLACES = 6;
    private static final long GREATEST_AMOUNT = 999999999999999L;
    private static final int GREATEST_WORDED = 999999999;

    private final Sheet now;
    private final Sheet[] images;
    private final Reader reader;
    /** What is written only to be read or compared, so that what is SHOWN stays. */
    private final Text draft;

    public TypedAmounts() {
        now = new Sheet();
        images = new Sheet[MOST_IMAGES];
        reader = new Reader();
        draft = new Text(MOST_SHOWN);
    }

    public int land(int point, int group, int grouping, int minus, int mark, boolean behind, int order, int daySign) {
        if (now.landCount >= MOST_LANDS
                || !Land.canWriteNumbers(point, group, grouping, minus)
                || !Land.canWriteMoney(mark)
                || !Land.canWriteDays(order, daySign)) {
            return NONE;
        }
        Land made = new Land(point, group, grouping, minus, mark, behind);
        made.setDays(order, daySign);
        return now.addLand(made);
    }

    public int key(int sign) {
        if (sign < 0 || sign > 255 || now.line.length() >= MOST_BYTES) {
            return NONE;
        }
        now.line.add(sign);
        return now.line.length();
    }

    public int keys(int signs) {
        int coming = 0;
        while (coming < 4 && byteOf(signs, coming) != 0) {
            coming++;
        }
        if (now.line.length() + coming > MOST_BYTES) {
            return NONE;
        }
        for (int i = 0; i < coming; i++) {
            now.line.add(byteOf(signs, i));
        }
        return now.line.length();
    }

    public int undo(int n) {
        if (n < 0 || n > now.line.length()) {
            return NONE;
        }
        now.line.shorten(n);
        return now.line.length();
    }

    public boolean bounds(int kind, long least, long greatest) {
        if (!isKind(kind) || least > greatest) {
            return false;
        }
        now.setBounds(kind, least, greatest);
        return true;
    }

    public long value(int land, int kind) {
        Land by = now.landAt(land);
        if (by == null || !isKind(kind)) {
            return LEAST_LONG;
        }
        int status = readLine(now.line.length(), by, kind);
        return countedValue(status, kind);
    }

    public boolean open(int land, int kind) {
        Land by = now.landAt(land);
        return by != null && isKind(kind) && readLine(now.line.length(), by, kind) == OPEN;
    }

    public int good(int land, int kind) {
        Land by = now.landAt(land);
        if (by == null || !isKind(kind)) {
            return NONE;
        }
        // What begins a good beginning is good itself, so the first bad one ends the search.
        int most = 0;
        while (most < now.line.length() && readLine(most + 1, by, kind) != DEAD) {
            most++;
        }
        return most;
    }

    public int state(int lands, int kind) {
        if (!isKind(kind)) {
            return NONE;
        }
        boolean some = false;
        boolean alike = true;
        boolean hope = false;
        long first = 0;
        for (int i = 0; i < MOST_LANDS; i++) {
            Land by = (lands >> i & 1) == 1 ? now.landAt(i) : null;
            int status = by == null ? DEAD : readLine(now.line.length(), by, kind);
            long counted = countedValue(status, kind);
            if (counted == LEAST_LONG) {
                hope = hope || status != DEAD;
            } else if (some) {
                alike = alike && counted == first;
            } else {
                some = true;
                first = counted;
            }
        }
        if (some) {
            return alike ? SURE_STATE : DOUBT_STATE;
        }
        return hope ? OPEN_STATE : WRONG_STATE;
    }

    public int show(int land, int kind, long value, int n) {
        return writeValue(now.display, now.landAt(land), kind, value, n);
    }

    public int words(int n) {
        if (n < 0 || n > GREATEST_WORDED) {
            return NONE;
        }
        Words.write(now.display, n);
        return now.display.length();
    }

    public int shown(int k) {
        return now.display.byteAt(k);
    }

    public int take() {
        int bytes = now.display.length();
        if (bytes == 0 || bytes > MOST_BYTES) {
            return NONE;
        }
        now.line.copyFrom(now.display);
        return bytes;
    }

    public int spoken() {
        int number = Words.meaning(now.line);
        if (number < 0 || number > GREATEST_WORDED) {
            return NONE;
        }
        // The meaning is found leniently: only the very WORDS of the number are its own.
        Words.write(draft, number);
        return draft.sameAs(now.line) ? number : NONE;
    }

    public long other(int a, int b, int kind, long value, int n) {
        Land by = now.landAt(b);
        int bytes = writeValue(draft, now.landAt(a), kind, value, n);
        if (by == null || bytes == NONE) {
            return LEAST_LONG;
        }
        int status = reader.read(draft.bytes, 0, bytes, by, kind);
        return status == READ ? reader.found : LEAST_LONG;
    }

    public int row() {
        return now.moveLineToRows();
    }

    public void clear() {
        now.rowCount = 0;
    }

    public int fit(int kind) {
        if (!isKind(kind)) {
            return NONE;
        }
        int fitting = (1 << now.landCount) - 1;
        for (int i = 0; i < now.landCount; i++) {
            Land by = now.landAt(i);
            int bit = 1 << i;
            for (int row = 0; row < now.rowCount && by != null && (fitting & bit) != 0; row++) {
                if (rowValue(row, by, kind) == LEAST_LONG) {
                    fitting -= bit;
                }
            }
        }
        return fitting;
    }

    public int misfit(int land, int kind) {
        Land by = now.landAt(land);
        if (by == null || !isKind(kind)) {
            return NONE;
        }
        for (int i = 0; i < now.rowCount; i++) {
            if (rowValue(i, by, kind) == LEAST_LONG) {
                return i;
            }
        }
        return NONE;
    }

    public long sum(int land, int kind) {
        Land by = now.landAt(land);
        if (by == null || kind != NUMBER && kind != MONEY) {
            return LEAST_LONG;
        }
        long total = 0;
        for (int i = 0; i < now.rowCount; i++) {
            long counted = rowValue(i, by, kind);
            if (counted == LEAST_LONG) {
                return LEAST_LONG;
            }
            total += counted;
        }
        return total;
    }

    public int count(int what) {
        switch (what) {
            case 0:
                return now.landCount;
            case 1:
                return now.line.length();
            case 2:
                return now.rowCount;
            case 3:
                return now.display.length();
            default:
                return NONE;
        }
    }

    public boolean image(int k) {
        if (k < 0 || k >= MOST_IMAGES) {
            return false;
        }
        // Made when first asked for, since few objects need all three; used again from then on.
        if (images[k] == null) {
            images[k] = new Sheet();
        }
        images[k].copyFrom(now);
        return true;
    }

    public boolean again(int k) {
        if (k < 0 || k >= MOST_IMAGES || images[k] == null) {
            return false;
        }
        now.copyFrom(images[k]);
        return true;
    }

    private static boolean isKind(int kind) {
        return kind >= 0 && kind < KINDS;
    }

    private static boolean isDigit(int sign) {
        return sign >= '0' && sign <= '9';
    }

    /** Byte 0 is the highest of the four. */
    private static int byteOf(int four, int place) {
        return four >>> (24 - 8 * place) & 255;
    }

    private int readLine(int bytes, Land by, int kind) {
        return reader.read(now.line.bytes, 0, bytes, by, kind);
    }

    /** The VALUE of what was read last, or the least long, which is no VALUE, if it does not count. */
    private long countedValue(int status, int kind) {
        return status == READ && now.isWithin(kind, reader.found) ? reader.found : LEAST_LONG;
    }

    private long rowValue(int row, Land by, int kind) {
        int from = now.rowStart(row);
        int status = reader.read(now.rows, from, from + now.rowLength(row), by, kind);
        return countedValue(status, kind);
    }

    /** Writes nothing where the answer is NONE, so that what was there before stays. */
    private static int writeValue(Text into, Land by, int kind, long value, int n) {
        if (by == null) {
            return NONE;
        }
        if (kind == DAY) {
            if (value < 0 || value > Days.LAST) {
                return NONE;
            }
            Writer.writeDay(into, by, (int) value);
            return into.length();
        }
        if (kind != NUMBER && kind != MONEY || n < 0 || n > MOST_PLACES || !isAmount(value)) {
            return NONE;
        }
        long rounded = Writer.rounded(value, n);
        if (!isAmount(rounded)) {
            return NONE;
        }
        Writer.writeAmount(into, by, kind == MONEY, rounded, n);
        return into.length();
    }

    private static boolean isAmount(long value) {
        return value >= -GREATEST_AMOUNT && value <= GREATEST_AMOUNT;
    }

    /** How one LAND writes; never changed once it is among the LANDS, so images share it. */
    private static final class Land {
        static final int NO_GROUP = 0;
        static final int MINUS_AHEAD = 0;
        static final int MINUS_BEHIND = 1;
        static final int MINUS_BRACKETS = 2;
        static final int MARK_BYTES = 3;
        static final int PARTS = 3;
        static final int DAY_PART = 0;
        static final int MONTH_PART = 1;
        static final int YEAR_PART = 2;

        final int point;
        final int group;
        /** Whether the digits ahead of the last three stand by two. */
        final boolean byTwo;
        final int minus;
        private final int mark;
        final boolean markBehind;
        private int order;
        private int daySign;

        Land(int point, int group, int grouping, int minus, int mark, boolean markBehind) {
            this.point = point;
            this.group = group;
            this.byTwo = grouping == 1;
            this.minus = minus;
            this.mark = mark;
            this.markBehind = markBehind;
        }

        void setDays(int newOrder, int newSign) {
            order = newOrder;
            daySign = newSign;
        }

        static boolean canWriteNumbers(int point, int group, int grouping, int minus) {
            boolean pointCan = point == ',' || point == '.';
            boolean groupCan = group == ',' || group == '.' || group == ' ' || group == '\'' || group == NO_GROUP;
            return pointCan && groupCan && group != point
                    && (grouping == 0 || grouping == 1)
                    && minus >= MINUS_AHEAD && minus <= MINUS_BRACKETS;
        }

        static boolean canWriteMoney(int mark) {
            // The first is not masked: a fourth byte above it makes it no letter.
            return isCapital(mark >> 16) && isCapital(mark >> 8 & 255) && isCapital(mark & 255);
        }

        static boolean canWriteDays(int order, int daySign) {
            return order >= 0 && order <= 2 && (daySign == '/' || daySign == '.' || daySign == '-');
        }

        private static boolean isCapital(int sign) {
            return sign >= 'A' && sign <= 'Z';
        }

        int markByte(int place) {
            return byteOf(mark, place + 1);
        }

        int signOfDays() {
            return daySign;
        }

        /** Which part of a day stands at a place, 0 .. 2. */
        int partAt(int place) {
            if (order == 2) {
                return YEAR_PART - place;
            }
            return order == 1 && place < YEAR_PART ? MONTH_PART - place : place;
        }

        /** The sign ahead of an amount with MINUS, or NONE. */
        int minusAhead() {
            if (minus == MINUS_BEHIND) {
                return NONE;
            }
            return minus == MINUS_BRACKETS ? '(' : '-';
        }

        /** The sign behind an amount with MINUS, or NONE. */
        int minusBehind() {
            if (minus == MINUS_AHEAD) {
                return NONE;
            }
            return minus == MINUS_BRACKETS ? ')' : '-';
        }

        /** Whether a GROUP sign stands where so many digits of WHOLE are still to come. */
        boolean groupsAhead(int digitsToCome) {
            if (group == NO_GROUP || digitsToCome < 3) {
                return false;
            }
            return byTwo ? digitsToCome % 2 == 1 : digitsToCome % 3 == 0;
        }
    }

    /** Bytes, 0 .. 255 each, up to a number that is fixed when it is made. */
    private static final class Text {
        final int[] bytes;
        private int length;

        Text(int most) {
            bytes = new int[Math.max(most, 0)];
        }

        int length() {
            return length;
        }

        int byteAt(int place) {
            return place >= 0 && place < length ? bytes[place] : NONE;
        }

        void add(int sign) {
            if (length < bytes.length) {
                bytes[length] = sign;
                length++;
            }
        }

        /** The lowest digits of a number, with 0 ahead where it has fewer. */
        void addDigits(int number, int digits) {
            for (int place = digits - 1; place >= 0; place--) {
                add('0' + Writer.digitOf(number, place));
            }
        }

        void shorten(int by) {
            length = Math.max(length - Math.max(by, 0), 0);
        }

        void empty() {
            length = 0;
        }

        void copyFrom(Text source) {
            length = Math.min(source.length, bytes.length);
            System.arraycopy(source.bytes, 0, bytes, 0, length);
        }

        boolean sameAs(Text another) {
            if (length != another.length) {
                return false;
            }
            for (int i = 0; i < length; i++) {
                if (bytes[i] != another.byteAt(i)) {
                    return false;
                }
            }
            return true;
        }
    }

    /** All that is told: what an image keeps. */
    private static final class Sheet {
        final Text line;
        final Text display;
        private final Land[] lands;
        int landCount;
        /** Row i begins at MOST_BYTES times i: one array for all, so that an image is one copy. */
        final int[] rows;
        private final int[] rowLengths;
        int rowCount;
        private final long[] least;
        private final long[] greatest;

        Sheet() {
            line = new Text(MOST_BYTES);
            display = new Text(MOST_SHOWN);
            lands = new Land[MOST_LANDS];
            rows = new int[MOST_ROWS * MOST_BYTES];
            rowLengths = new int[MOST_ROWS];
            least = new long[KINDS];
            greatest = new long[KINDS];
            for (int kind = 0; kind < KINDS; kind++) {
                least[kind] = LEAST_LONG;
                greatest[kind] = GREATEST_LONG;
            }
        }

        Land landAt(int number) {
            return number >= 0 && number < landCount && number < lands.length ? lands[number] : null;
        }

        int addLand(Land made) {
            if (landCount >= lands.length) {
                return NONE;
            }
            lands[landCount] = made;
            landCount++;
            return landCount - 1;
        }

        void setBounds(int kind, long from, long to) {
            if (isKind(kind)) {
                least[kind] = from;
                greatest[kind] = to;
            }
        }

        boolean isWithin(int kind, long value) {
            return isKind(kind) && value >= least[kind] && value <= greatest[kind];
        }

        int moveLineToRows() {
            if (rowCount >= MOST_ROWS) {
                return NONE;
            }
            rowLengths[rowCount] = line.length();
            System.arraycopy(line.bytes, 0, rows, rowStart(rowCount), line.length());
            line.empty();
            rowCount++;
            return rowCount - 1;
        }

        int rowStart(int row) {
            return row * MOST_BYTES;
        }

        int rowLength(int row) {
            return row >= 0 && row < rowCount && row < rowLengths.length ? rowLengths[row] : 0;
        }

        void copyFrom(Sheet source) {
            line.copyFrom(source.line);
            display.copyFrom(source.display);
            landCount = source.landCount;
            for (int i = 0; i < MOST_LANDS; i++) {
                lands[i] = source.lands[i];
            }
            rowCount = source.rowCount;
            System.arraycopy(source.rowLengths, 0, rowLengths, 0, MOST_ROWS);
            System.arraycopy(source.rows, 0, rows, 0, rows.length);
            System.arraycopy(source.least, 0, least, 0, KINDS);
            System.arraycopy(source.greatest, 0, greatest, 0, KINDS);
        }
    }

    /**
     * Reads bytes from left to right. While the status is READ nothing is amiss yet; the first
     * thing that lacks sets it to OPEN or DEAD, and from then on no step does anything.
     */
    private static final class Reader {
        private int[] bytes;
        private int at;
        private int end;
        private int status;
        /** The digits passed so far, as one number. */
        private long number;
        /** The VALUE, if the status is READ. */
        long found;
        private final int[] parts;
        private final int[] widths;
        /** The part of a day in which the bytes end, to which a digit more could come. */
        private int growing;

        Reader() {
            bytes = new int[0];
            parts = new int[Land.PARTS];
            widths = new int[Land.PARTS];
        }

        int read(int[] source, int from, int to, Land land, int kind) {
            bytes = source;
            at = Math.max(from, 0);
            end = Math.min(to, source.length);
            status = READ;
            number = 0;
            found = 0;
            if (kind == DAY) {
                readDay(land);
            } else {
                readAmount(land, kind == MONEY);
            }
            return status;
        }

        private void readAmount(Land land, boolean money) {
            boolean below = passes(land.minusAhead());
            if (money && !land.markBehind) {
                needMark(land);
                passes(' ');
            }
            int first = needFirstDigits();
            needGroups(land, first);
            passFraction(land.point);
            if (money && land.markBehind) {
                passes(' ');
                needMark(land);
            }
            if (land.minus == Land.MINUS_BEHIND) {
                below = passes(land.minusBehind());
            } else if (land.minus == Land.MINUS_BRACKETS && below) {
                need(land.minusBehind());
            }
            needEnd();
            found = below ? -number : number;
        }

        private void needMark(Land land) {
            for (int i = 0; i < Land.MARK_BYTES; i++) {
                need(land.markByte(i));
            }
        }

        private int needFirstDigits() {
            int passed = passes('0') ? 1 : passDigits(MOST_WHOLE_DIGITS);
            if (passed == 0) {
                lack();
            }
            return passed;
        }

        /** Up to nine digits in all: two signs by three, or three signs where it goes by two. */
        private void needGroups(Land land, int first) {
            // A number of 0 is a lone 0, behind which no digit may come.
            boolean mayGroup = land.group != Land.NO_GROUP && number > 0 && first <= (land.byTwo ? 2 : 3);
            int mostSigns = land.byTwo ? 3 : 2;
            boolean complete = true;
            for (int signs = 0; signs < mostSigns && mayGroup && isGroupNext(land.group); signs++) {
                at++;
                int width = passDigits(3);
                complete = width == 3;
                mayGroup = land.byTwo ? width == 2 : complete;
            }
            if (!complete) {
                lack();
            }
        }

        /** A blank that no digit follows may stand ahead of the MARK: it is left to that. */
        private boolean isGroupNext(int group) {
            return status == READ && at < end && bytes[at] == group
                    && (at + 1 >= end || isDigit(bytes[at + 1]));
        }

        private void passFraction(int point) {
            int places = 0;
            if (passes(point)) {
                places = passDigits(MOST_PLACES);
                if (places == 0) {
                    lack();
                }
            }
            for (int i = places; i < MOST_PLACES; i++) {
                number *= 10;
            }
        }

        private void readDay(Land land) {
            growing = NONE;
            for (int i = 0; i < Land.PARTS; i++) {
                parts[i] = 0;
                widths[i] = 0;
            }
            for (int i = 0; i < Land.PARTS; i++) {
                if (i > 0) {
                    need(land.signOfDays());
                }
                needPart(land.partAt(i));
            }
            needEnd();
            int year = parts[Land.YEAR_PART];
            int month = parts[Land.MONTH_PART];
            int day = parts[Land.DAY_PART];
            if (status == READ && Days.isDay(year, month, day)) {
                found = Days.numberOf(year, month, day);
            } else if (status != DEAD) {
                status = couldBeDay() ? OPEN : DEAD;
            }
        }

        private void needPart(int part) {
            if (status != READ || part < 0 || part >= Land.PARTS) {
                return;
            }
            boolean isYear = part == Land.YEAR_PART;
            number = 0;
            widths[part] = passDigits(isYear ? 4 : 2);
            parts[part] = (int) number;
            if (at >= end) {
                growing = part;
            }
            if (widths[part] < (isYear ? 4 : 1)) {
                lack();
            }
        }

        /** Whether some day has the parts that are there, and the rest as it likes. */
        private boolean couldBeDay() {
            boolean yearStands = widths[Land.YEAR_PART] == 4;
            int year = parts[Land.YEAR_PART];
            if (yearStands && year == 0) {
                return false;
            }
            // Three digits of a year or fewer always leave a leap year, which has every day.
            boolean leap = !yearStands || Days.isLeap(year);
            int day = leastDay();
            for (int month = 1; month <= 12; month++) {
                if (couldBeMonth(month) && day >= 1 && day <= Days.lengthOf(month, leap)) {
                    return true;
                }
            }
            return false;
        }

        private int leastDay() {
            int width = widths[Land.DAY_PART];
            int day = parts[Land.DAY_PART];
            boolean more = width == 0 || width == 1 && growing == Land.DAY_PART;
            return more ? Math.max(day, 1) : day;
        }

        private boolean couldBeMonth(int month) {
            int width = widths[Land.MONTH_PART];
            int typed = parts[Land.MONTH_PART];
            boolean second = width == 1 && growing == Land.MONTH_PART && month / 10 == typed;
            return width == 0 || month == typed || second;
        }

        private boolean passes(int sign) {
            if (status != READ || at >= end || bytes[at] != sign) {
                return false;
            }
            at++;
            return true;
        }

        private int passDigits(int most) {
            int passed = 0;
            while (passed < most && status == READ && at < end && isDigit(bytes[at])) {
                number = number * 10 + (bytes[at] - '0');
                at++;
                passed++;
            }
            return passed;
        }

        private void need(int sign) {
            if (!passes(sign)) {
                lack();
            }
        }

        private void needEnd() {
            if (at < end) {
                lack();
            }
        }

        /** What lacks may still come only if nothing else stands in its place. */
        private void lack() {
            if (status == READ) {
                status = at >= end ? OPEN : DEAD;
            }
        }
    }

    /** Writes VALUES the way that a LAND shows them. */
    private static final class Writer {
        static long rounded(long value, int n) {
            long size = Math.abs(value);
            long lastDropped = 0;
            for (int i = n; i < MOST_PLACES; i++) {
                lastDropped = size % 10;
                size /= 10;
            }
            if (lastDropped >= 5) {
                size++;
            }
            for (int i = n; i < MOST_PLACES; i++) {
                size *= 10;
            }
            return value < 0 ? -size : size;
        }

        static int digitOf(long number, int place) {
            long left = number;
            for (int i = 0; i < place; i++) {
                left /= 10;
            }
            return (int) (left % 10);
        }

        static void writeAmount(Text into, Land land, boolean money, long rounded, int n) {
            boolean below = rounded < 0;
            into.empty();
            if (below && land.minusAhead() != NONE) {
                into.add(land.minusAhead());
            }
            if (money && !land.markBehind) {
                addMark(into, land);
            }
            addNumber(into, land, Math.abs(rounded), n);
            if (money && land.markBehind) {
                into.add(' ');
                addMark(into, land);
            }
            if (below && land.minusBehind() != NONE) {
                into.add(land.minusBehind());
            }
        }

        private static void addMark(Text into, Land land) {
            for (int i = 0; i < Land.MARK_BYTES; i++) {
                into.add(land.markByte(i));
            }
        }

        private static void addNumber(Text into, Land land, long size, int n) {
            int top = MOST_PLACES + MOST_WHOLE_DIGITS - 1;
            while (top > MOST_PLACES && digitOf(size, top) == 0) {
                top--;
            }
            for (int place = top; place >= MOST_PLACES; place--) {
                into.add('0' + digitOf(size, place));
                if (land.groupsAhead(place - MOST_PLACES)) {
                    into.add(land.group);
                }
            }
            if (n > 0) {
                into.add(land.point);
            }
            for (int place = MOST_PLACES - 1; place >= MOST_PLACES - n; place--) {
                into.add('0' + digitOf(size, place));
            }
        }

        static void writeDay(Text into, Land land, int number) {
            int year = Days.yearOf(number);
            boolean leap = Days.isLeap(year);
            int rest = number - Days.beforeYear(year);
            int month = 1;
            while (month < 12 && rest >= Days.lengthOf(month, leap)) {
                rest -= Days.lengthOf(month, leap);
                month++;
            }
            into.empty();
            for (int i = 0; i < Land.PARTS; i++) {
                if (i > 0) {
                    into.add(land.signOfDays());
                }
                int part = land.partAt(i);
                if (part == Land.YEAR_PART) {
                    into.addDigits(year, 4);
                } else {
                    into.addDigits(part == Land.MONTH_PART ? month : rest + 1, 2);
                }
            }
        }
    }

    /** Days as numbers: 1 January 1 is 0. */
    private static final class Days {
        /** 31 December 9999. */
        static final int LAST = 3652058;
        private static final int[] LENGTHS = {31, 28, 31, 30, 31, 30, 31, 31, 30, 31, 30, 31};
        private static final int DAYS_OF_400_YEARS = 146097;
        private static final int DAYS_OF_100_YEARS = 36524;
        private static final int DAYS_OF_4_YEARS = 1461;

        static boolean isLeap(int year) {
            return year % 4 == 0 && year % 100 != 0 || year % 400 == 0;
        }

        static int lengthOf(int month, boolean leap) {
            if (month < 1 || month > LENGTHS.length) {
                return 0;
            }
            return month == 2 && leap ? 29 : LENGTHS[month - 1];
        }

        static boolean isDay(int year, int month, int day) {
            return year >= 1 && year <= 9999 && day >= 1 && day <= lengthOf(month, isLeap(year));
        }

        static int beforeYear(int year) {
            int past = year - 1;
            return past * 365 + past / 4 - past / 100 + past / 400;
        }

        static int numberOf(int year, int month, int day) {
            boolean leap = isLeap(year);
            int number = beforeYear(year) + day - 1;
            for (int i = 1; i < month && i <= 12; i++) {
                number += lengthOf(i, leap);
            }
            return number;
        }

        static int yearOf(int number) {
            int rest = number % DAYS_OF_400_YEARS;
            // The last century of 400 years, and the last year of four, may have a day more.
            int centuries = Math.min(rest / DAYS_OF_100_YEARS, 3);
            rest -= centuries * DAYS_OF_100_YEARS;
            int fours = rest / DAYS_OF_4_YEARS;
            rest -= fours * DAYS_OF_4_YEARS;
            int single = Math.min(rest / 365, 3);
            return number / DAYS_OF_400_YEARS * 400 + centuries * 100 + fours * 4 + single + 1;
        }
    }

    /** Whole numbers in WORDS, both ways. */
    private static final class Words {
        private static final int TWENTY = 20;
        private static final int HUNDRED = 28;
        private static final int THOUSAND = 29;
        private static final int MILLION = 30;
        private static final int NAMES = 31;

        static void write(Text into, int number) {
            into.empty();
            if (number == 0) {
                addName(into, 0);
                return;
            }
            addPart(into, number / 1000000, MILLION);
            addPart(into, number / 1000 % 1000, THOUSAND);
            addPart(into, number % 1000, NONE);
        }

        private static void addPart(Text into, int part, int nameBehind) {
            if (part == 0) {
                return;
            }
            if (part >= 100) {
                addName(into, part / 100);
                addName(into, HUNDRED);
            }
            int rest = part % 100;
            if (rest >= 20) {
                addName(into, TWENTY + rest / 10 - 2);
                rest %= 10;
            }
            if (rest > 0) {
                addName(into, rest);
            }
            if (nameBehind != NONE) {
                addName(into, nameBehind);
            }
        }

        private static void addName(Text into, int name) {
            if (into.length() > 0) {
                into.add(' ');
            }
            String letters = nameOf(name);
            for (int i = 0; i < letters.length(); i++) {
                into.add(letters.charAt(i));
            }
        }

        /** What names one blank apart mean together, whether or not they are WORDS; NONE for other names. */
        static int meaning(Text line) {
            int total = 0;
            int part = 0;
            int from = 0;
            for (int i = 0; i <= line.length(); i++) {
                if (i < line.length() && line.byteAt(i) != ' ') {
                    continue;
                }
                int name = nameIn(line, from, i);
                if (name == NONE) {
                    return NONE;
                } else if (name == THOUSAND || name == MILLION) {
                    total += part * (name == MILLION ? 1000000 : 1000);
                    part = 0;
                } else if (name == HUNDRED) {
                    part *= 100;
                } else {
                    part += name < TWENTY ? name : (name - TWENTY + 2) * 10;
                }
                from = i + 1;
            }
            return total + part;
        }

        private static int nameIn(Text line, int from, int to) {
            for (int name = 0; name < NAMES; name++) {
                if (stands(line, from, to, nameOf(name))) {
                    return name;
                }
            }
            return NONE;
        }

        private static boolean stands(Text line, int from, int to, String letters) {
            if (letters.length() != to - from) {
                return false;
            }
            for (int i = 0; i < letters.length(); i++) {
                if (line.byteAt(from + i) != letters.charAt(i)) {
                    return false;
                }
            }
            return true;
        }

        private static String nameOf(int name) {
            switch (name) {
                case 0: return "zero";
                case 1: return "one";
                case 2: return "two";
                case 3: return "three";
                case 4: return "four";
                case 5: return "five";
                case 6: return "six";
                case 7: return "seven";
                case 8: return "eight";
                case 9: return "nine";
                case 10: return "ten";
                case 11: return "eleven";
                case 12: return "twelve";
                case 13: return "thirteen";
                case 14: return "fourteen";
                case 15: return "fifteen";
                case 16: return "sixteen";
                case 17: return "seventeen";
                case 18: return "eighteen";
                case 19: return "nineteen";
                case 20: return "twenty";
                case 21: return "thirty";
                case 22: return "forty";
                case 23: return "fifty";
                case 24: return "sixty";
                case 25: return "seventy";
                case 26: return "eighty";
                case 27: return "ninety";
                case 28: return "hundred";
                case 29: return "thousand";
                case 30: return "million";
                default: return "";
            }
        }
    }
}
