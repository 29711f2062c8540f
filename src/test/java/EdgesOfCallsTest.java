/** The edges that the promises 50 to 62 name, promise by promise: output, commands, rejections, undo, the snapshot. */
public final class EdgesOfCallsTest {
    private static final Checks CHECKS = new Checks("EdgesOfCallsTest");
    private static final Edges EDGES = new Edges(CHECKS);

    public static void main(String[] arguments) {
        promise50();
        promise51();
        promise52();
        promise53();
        promise54Empty();
        promise54Syntax();
        promise54Index();
        promise54Rejected();
        promise54Changes();
        promise55();
        promises56And57();
        promise58();
        promise59();
        promise59Refilled();
        promise60();
        promise61();
        promise62();
        CHECKS.end();
    }

    private static void written(String what, String want, HabitRegistry registry, Edges.Call call) {
        EDGES.answers(what + ", length", want.length(), registry, call);
        String seen = Edges.seen(registry);
        CHECKS.dueText(what, want, seen.substring(seen.lastIndexOf("| ") + 2));
    }

    private static void promise50() {
        EDGES.asksForPerson("50: text", HabitRegistry::writePerson);
        written("50: a founder without habits", "0", Checks.after("f"), other -> other.writePerson(0));
        written("50: a dead founder", "7+", Edges.lived(), other -> other.writePerson(7));
        written("50: a dead child", "8+<5", Edges.lived(), other -> other.writePerson(8));
        written("50: the parent with the index 0", "5<0 s4", Edges.lived(), other -> other.writePerson(5));
        written("50: an extinct habit is not held", "0 d5 s3!", Edges.lived(), other -> other.writePerson(0));
        HabitRegistry turned = Checks.after("f;f;c1;c1;c1;a4h2;a4s9;a4d7;c4;e2");
        written("50: by kind, not by index", "4<1 d7! s9 h2", turned, other -> other.writePerson(4));
        turned.neglect(1);
        turned.bury(4);
        written("50: the dead hold nothing", "4+<1", turned, other -> other.writePerson(4));
        written("50: the heir does", "5<4 d7! s8 h2", turned, other -> other.writePerson(5));
        written("50: indices of two digits", "15<14", Edges.fullOfPeople(), other -> other.writePerson(15));
        HabitRegistry longest = Checks.after("f;f;f;f;f;f;f;f;f;f;f;f;f;f;f");
        longest.addChild(14);
        longest.bury(13);
        Checks.execute(longest, "a14d9;a14s9;a14h9;e0;e1;e2;b14");
        written("50: the longest text", "15<14 d9! s9! h9!", longest, other -> other.writePerson(15));
        written("50: two digits and the dead", "13+", longest, other -> other.writePerson(13));
    }

    private static void promise51() {
        EDGES.asksForPerson("51: the line", HabitRegistry::writeLine);
        written("51: a founder", "6", Edges.lived(), other -> other.writeLine(6));
        written("51: a dead founder", "7", Edges.lived(), other -> other.writeLine(7));
        written("51: a dead person", "8<5<0", Edges.lived(), other -> other.writeLine(8));
        written("51: down to person 0", "1<0", Edges.lived(), other -> other.writeLine(1));
        HabitRegistry line = new HabitRegistry();
        line.addFounder();
        for (int person = 1; person < 16; person++) {
            line.addChild(person - 1);
        }
        written("51: the longest line", "15<14<13<12<11<10<9<8<7<6<5<4<3<2<1<0", line, other -> other.writeLine(15));
        EDGES.answers("52: its last character", '0', line, other -> other.outputAt(36));
        EDGES.answers("52: none behind it", "none", line, other -> noCharacter(other, 37));
        written("51: in place of the longest", "0", line, other -> other.writeLine(0));
        EDGES.answers("52: nothing of the longest", "none", line, other -> noCharacter(other, 1));
    }

    private static String noCharacter(HabitRegistry registry, int index) {
        String outcome = Edges.outcome(registry, other -> other.outputAt(index));
        return outcome.equals("throws IndexOutOfBoundsException") ? "none" : outcome;
    }

    private static void promise52() {
        for (int index : new int[] {0, -1, 1, Integer.MIN_VALUE, Integer.MAX_VALUE}) {
            EDGES.throwing("52: the output is empty at first, " + index, Edges.INDEX, Edges::unborn,
                    other -> other.outputAt(index));
        }
        for (int index : new int[] {-1, 5, 6, 36, 59, 60, Integer.MIN_VALUE, Integer.MAX_VALUE}) {
            EDGES.throwing("52: no character at " + index, Edges.INDEX, Edges::lived, other -> other.outputAt(index));
        }
        String output = "2<1<0";
        for (int index = 0; index < output.length(); index++) {
            int asked = index;
            EDGES.answers("52: character " + index, output.charAt(index), Edges.lived(),
                    other -> other.outputAt(asked));
        }
    }

    private static HabitRegistry fullInput() {
        HabitRegistry registry = Edges.livedWithoutInput();
        Checks.append(registry, "y1;".repeat(19) + "y11");
        return registry;
    }

    private static void promise53() {
        for (char code : new char[] {0, 1, 10, 31, 127, 128, 255, 256, 256 + 'f', 65535}) {
            EDGES.throwing("53: no code " + (int) code, Edges.ARGUMENT, Edges::lived, other -> other.appendInput(code));
            EDGES.throwing("53: no code is named ahead of 60 characters, " + (int) code, Edges.ARGUMENT,
                    EdgesOfCallsTest::fullInput, other -> other.appendInput(code));
        }
        for (char code = 32; code <= 126; code++) {
            char appended = code;
            EDGES.answers("53: code " + (int) code, 1, new HabitRegistry(), other -> other.appendInput(appended));
            EDGES.throwing("53: behind 60 characters, " + code, Edges.STATE, EdgesOfCallsTest::fullInput,
                    other -> other.appendInput(appended));
        }
        HabitRegistry registry = new HabitRegistry();
        for (int length = 1; length <= 60; length++) {
            EDGES.answers("53: character " + length, length, registry, other -> other.appendInput('f'));
        }
        CHECKS.badState("53: character 61", () -> registry.appendInput('f'));
        CHECKS.badArgument("54: sixty characters", registry::execute);
        CHECKS.due("55: none of them is lost", 1, registry.syntaxErrorOffset());
        EDGES.answers("53: the first of a new input", 1, registry, other -> other.appendInput('f'));
    }

    private static void promise54Empty() {
        EDGES.misreading("", 0, Edges::livedWithoutInput);
        EDGES.misreading("", 0, Edges::unborn);
        HabitRegistry registry = Checks.after("f");
        CHECKS.badArgument("54: the input is empty behind a call that answers", registry::execute);
        CHECKS.due("55: and has its error at 0", 0, registry.syntaxErrorOffset());
    }

    /** A beginning of an input, what can follow it, and whether it is an input of its own. */
    private record Beginning(String text, String followers, boolean whole) {
    }

    private static final String LETTERS = "fcbapnekgy";
    private static final String DIGITS = "0123456789";
    private static final Beginning[] BEGINNINGS = {
        new Beginning("", LETTERS, false), new Beginning("f", ";", true), new Beginning("f;", LETTERS, false),
        new Beginning("c", DIGITS, false), new Beginning("c0", DIGITS + ";", true), new Beginning("c00", ";", true),
        new Beginning("b", DIGITS, false), new Beginning("b9", DIGITS + ";", true), new Beginning("b99", ";", true),
        new Beginning("p", DIGITS, false), new Beginning("p0", DIGITS + ";", true), new Beginning("p10", ";", true),
        new Beginning("n", DIGITS, false), new Beginning("n0", DIGITS + ";", true), new Beginning("n01", ";", true),
        new Beginning("e", DIGITS, false), new Beginning("e0", DIGITS + ";", true), new Beginning("e20", ";", true),
        new Beginning("k", DIGITS, false), new Beginning("k0", DIGITS + ";", true), new Beginning("k09", ";", true),
        new Beginning("a", DIGITS, false), new Beginning("a0", DIGITS + "dsh", false),
        new Beginning("a15", "dsh", false), new Beginning("a0d", DIGITS, false), new Beginning("a15s", DIGITS, false),
        new Beginning("a15h", DIGITS, false), new Beginning("a0d1", ";", true), new Beginning("a15h0", ";", true),
        new Beginning("a0s9;", LETTERS, false), new Beginning("g", DIGITS, false),
        new Beginning("g0", DIGITS + ">", false), new Beginning("g19", ">", false),
        new Beginning("g0>", DIGITS, false), new Beginning("g19>", DIGITS, false),
        new Beginning("g0>0", DIGITS + ";", true), new Beginning("g19>15", ";", true),
        new Beginning("g19>15;", LETTERS, false), new Beginning("y", DIGITS, false), new Beginning("y0", ";", true),
        new Beginning("y9", ";", true), new Beginning("y9;", LETTERS, false)};

    /** "The index of the first character that cannot follow", and "the length if the input ends too early". */
    private static void promise54Syntax() {
        for (String ahead : new String[] {"", "f;c0;", "y1;".repeat(17)}) {
            for (Beginning beginning : BEGINNINGS) {
                String text = ahead + beginning.text;
                int end = beginning.whole ? -1 : text.length();
                dueOffset(text, end);
                for (char next = 32; next <= 126; next++) {
                    if (beginning.followers.indexOf(next) < 0) {
                        dueOffset(text + next, text.length());
                        dueOffset(text + next + "f", text.length());
                    }
                }
                for (char next : beginning.followers.toCharArray()) {
                    int behind = offset(text + next);
                    CHECKS.due("54: '" + text + next + "' can stand", true, behind < 0 || behind > text.length());
                }
            }
        }
        EDGES.misreading("f;;", 2, Edges::livedWithoutInput);
        EDGES.misreading("y1;c0;b1;n0;a9d9;g0>", 20, Edges::livedWithoutInput);
        EDGES.misreading("b9;x", 3, Edges::livedWithoutInput);
        EDGES.misreading("b7;", 3, Edges::livedWithoutInput);
        EDGES.misreading("f;".repeat(30), 60, Edges::livedWithoutInput);
        EDGES.misreading("y1;".repeat(19) + "y1 ", 59, Edges::livedWithoutInput);
        EDGES.misreading("y1;".repeat(19) + "g1>", 60, Edges::livedWithoutInput);
    }

    /** The offset of the syntax error in a text, -1 if it has none. */
    private static int offset(String text) {
        HabitRegistry registry = new HabitRegistry();
        String thrown = Edges.outcome(registry, other -> Checks.execute(other, text));
        return thrown.equals("throws IllegalArgumentException") ? registry.syntaxErrorOffset() : -1;
    }

    private static void dueOffset(String text, int want) {
        CHECKS.due("55: offset in '" + text + "'", want, offset(text));
    }

    /** "The first command that fails has an index or a number that its method does not accept." */
    private static void promise54Index() {
        String[] texts = {"c9", "b9", "p7", "n7", "e7", "k7", "a9d1", "a0d0", "g7>0", "g0>9", "y0", "c09", "c99", "b16",
            "p20", "n99", "a99d0", "g99>99", "g0>16", "g20>0", "f;c10", "f;c9;b11", "a2d3;p8", "a2d3;a2s0", "y9;y0",
            "b0;b1;b6;b9", "b9;b7", "c9;p3", "y0;b7", "y1;n5;k2;g0>3;c0;f;a2h3;p6;b5;b99"};
        for (String text : texts) {
            EDGES.throwingText(text, Edges::livedWithoutInput);
        }
        for (String text : new String[] {"c0", "b0", "p0", "n0", "e0", "k0", "a0d1", "g0>0", "y0", "f;c1", "f;n0"}) {
            EDGES.throwingText(text, Edges::unborn);
        }
        EDGES.answers("54: indices that the commands ahead have made", 4, Edges.livedWithoutInput(),
                other -> Checks.execute(other, "f;c9;a10d1;n7"));
        EDGES.throwingText("c16", Edges::fullOfPeople);
        EDGES.throwingText("n20", Edges::fullOfHabits);
    }

    private static void promise54Rejected() {
        EDGES.rejectingText("b7;b9", 0, HabitRegistry.DEAD, Edges::livedWithoutInput);
        EDGES.rejectingText("f;c0;b7", 2, HabitRegistry.DEAD, Edges::livedWithoutInput);
        EDGES.rejectingText("f;c9;b10;b10;y0", 3, HabitRegistry.DEAD, Edges::livedWithoutInput);
        EDGES.rejectingText("p0;p0;p0;p0;p0", 4, HabitRegistry.FULL_STRENGTH, Edges::livedWithoutInput);
        EDGES.rejectingText("n4;n4", 1, HabitRegistry.EXTINCT, Edges::livedWithoutInput);
        EDGES.rejectingText("b0;y9;p1", 2, HabitRegistry.EXTINCT, Edges::livedWithoutInput);
        EDGES.rejectingText("k2;k2", 1, HabitRegistry.NOT_ENTAILED, Edges::livedWithoutInput);
        EDGES.rejectingText("f;f;f;f;f;f;f;f", 7, HabitRegistry.PEOPLE_LIMIT, Edges::livedWithoutInput);
        EDGES.rejectingText("n19;n19;n19;a0s1", 3, HabitRegistry.HABIT_LIMIT, Edges::fullOfHabits);
        EDGES.rejectingText("f;".repeat(29) + "f", 16, HabitRegistry.PEOPLE_LIMIT, Edges::unborn);
        EDGES.rejectingText("y1;".repeat(19) + "b07", 19, HabitRegistry.DEAD, Edges::livedWithoutInput);
        EDGES.rejectingText("y1;y9;b0;b6;b5;b1;b2;b3;b4;b4", 9, HabitRegistry.DEAD, Edges::livedWithoutInput);
    }

    private static void promise54Changes() {
        HabitRegistry registry = Edges.livedWithoutInput();
        registry.undo();
        String before = Edges.seen(registry);
        int changes = registry.undoCount();
        EDGES.answers("54: the number of commands", 9, registry,
                other -> Checks.execute(other, "f;c9;b10;a9h3;p7;k2;g4>3;b4;y2"));
        EDGES.answers("60: they are one change", changes + 1, registry, HabitRegistry::undoCount);
        EDGES.answers("59: and undone as one", changes, registry, HabitRegistry::undo);
        CHECKS.dueText("59: as it was", before, Edges.seen(registry));
        CHECKS.badArgument("59: the input is not restored", registry::execute);
        String most = "f;".repeat(16) + "y1;".repeat(8) + "b15";
        EDGES.answers("54: the most people and more", 25, new HabitRegistry(), other -> Checks.execute(other, most));
        EDGES.answers("54: sixty characters", 20, new HabitRegistry(),
                other -> Checks.execute(other, "f;c00;" + "y1;".repeat(17) + "b00"));
        EDGES.answers("54: one command", 1, new HabitRegistry(), other -> Checks.execute(other, "f"));
        EDGES.answers("54: indices with a leading 0", 5, new HabitRegistry(),
                other -> Checks.execute(other, "f;c00;a01d1;g00>00;b01"));
    }

    private static void promise55() {
        EDGES.throwing("55: no syntax error", Edges.ELEMENT, Edges::unborn, HabitRegistry::syntaxErrorOffset);
        HabitRegistry registry = Checks.after("f;a0d9");
        for (String text : new String[] {"b1", "p0", "f"}) {
            Edges.outcome(registry, other -> Checks.execute(other, text));
        }
        CHECKS.badArgument("55: no year", () -> registry.passYears(0));
        CHECKS.badArgument("55: no kind", () -> registry.addHabit(0, 'x', 1));
        CHECKS.badArgument("55: no code", () -> registry.appendInput((char) 10));
        CHECKS.noElement("55: none of these is a syntax error", registry::syntaxErrorOffset);
        registry.saveSnapshot();
        CHECKS.badArgument("55: the first", () -> Checks.execute(registry, "f;f;ff"));
        CHECKS.due("55: its offset", 5, registry.syntaxErrorOffset());
        for (String text : new String[] {"b9", "p0", "f"}) {
            Edges.outcome(registry, other -> Checks.execute(other, text));
            CHECKS.due("55: it stays the latest behind '" + text + "'", 5, registry.syntaxErrorOffset());
        }
        registry.undo();
        CHECKS.due("55: undo does not cover it", 5, registry.syntaxErrorOffset());
        registry.restoreSnapshot();
        CHECKS.due("55: nor does the snapshot", 5, registry.syntaxErrorOffset());
        CHECKS.badArgument("55: the second", registry::execute);
        CHECKS.due("55: the latest", 0, registry.syntaxErrorOffset());
    }

    private static void promises56And57() {
        EDGES.throwing("56: no rejection", Edges.ELEMENT, Edges::unborn, HabitRegistry::rejectionReason);
        EDGES.throwing("57: no rejection", Edges.ELEMENT, Edges::unborn, HabitRegistry::rejectionDetail);
        EDGES.throwing("58: no rejection", Edges.ELEMENT, Edges::unborn, HabitRegistry::causeReason);
        Edges.Call[] noRejections = {other -> other.bury(1), other -> other.passYears(10),
            HabitRegistry::restoreSnapshot, other -> other.parentOf(0), HabitRegistry::meanStrength,
            HabitRegistry::execute,
            other -> Checks.execute(other, "b1"), other -> other.addHabit(0, 'd', 0), other -> other.outputAt(0),
            other -> other.practise(0), other -> other.heirOf(0)};
        for (int call = 0; call < noRejections.length; call++) {
            HabitRegistry registry = Checks.after("f");
            String outcome = Edges.outcome(registry, noRejections[call]);
            CHECKS.due("56: exception " + call, true, outcome.startsWith("throws "));
            CHECKS.noElement("56: is no rejection, " + call, registry::rejectionReason);
            CHECKS.noElement("57: is no rejection, " + call, registry::rejectionDetail);
            CHECKS.noElement("58: is no rejection, " + call, registry::causeReason);
        }
        HabitRegistry registry = Checks.after("f;b0;f");
        registry.saveSnapshot();
        CHECKS.rejected("56: the first", registry, HabitRegistry.DEAD, 0, () -> registry.addChild(0));
        registry.addChild(1);
        registry.undo();
        registry.restoreSnapshot();
        CHECKS.due("56: undo and the snapshot do not cover it", HabitRegistry.DEAD, registry.rejectionReason());
        CHECKS.due("57: nor its detail", 0, registry.rejectionDetail());
        CHECKS.rejected("56: the second", registry, HabitRegistry.COMMAND_REJECTED, 1,
                () -> Checks.execute(registry, "y1;b0"));
        CHECKS.rejected("56: the third, like the first", registry, HabitRegistry.DEAD, 0, () -> registry.bury(0));
    }

    private static void promise58() {
        EDGES.throwing("58: another reason", Edges.ELEMENT, () -> {
            HabitRegistry registry = Edges.lived();
            Edges.outcome(registry, other -> other.bury(7));
            return registry;
        }, HabitRegistry::causeReason);
        HabitRegistry registry = Edges.lived();
        CHECKS.due("58: the cause of a command", HabitRegistry.DEAD, registry.causeReason());
        registry.undo();
        CHECKS.due("58: undo does not cover it", HabitRegistry.DEAD, registry.causeReason());
        registry.restoreSnapshot();
        CHECKS.due("58: nor does the snapshot", HabitRegistry.DEAD, registry.causeReason());
        CHECKS.rejected("58: a call of another method", registry, HabitRegistry.NOT_ENTAILED, 0,
                () -> registry.breakEntail(0));
        CHECKS.noElement("58: no cause then", registry::causeReason);
        Edges.outcome(registry, HabitRegistry::execute);
        CHECKS.rejected("58: a command again", registry, HabitRegistry.COMMAND_REJECTED, 0,
                () -> Checks.execute(registry, "g0>0"));
        CHECKS.due("58: its cause", HabitRegistry.SAME_HOLDER, registry.causeReason());
    }

    private static void promise59() {
        EDGES.throwing("59: nothing at first", Edges.STATE, Edges::unborn, HabitRegistry::undo);
        EDGES.throwing("59: nothing behind the eighth", Edges.STATE, () -> {
            HabitRegistry registry = Edges.lived();
            for (int undone = 0; undone < 8; undone++) {
                registry.undo();
            }
            return registry;
        }, HabitRegistry::undo);
        EDGES.throwing("59: nothing behind a snapshot", Edges.STATE, () -> {
            HabitRegistry registry = Edges.lived();
            registry.restoreSnapshot();
            return registry;
        }, HabitRegistry::undo);
        HabitRegistry one = new HabitRegistry();
        one.addFounder();
        EDGES.answers("59: the only change", 0, one, HabitRegistry::undo);
        CHECKS.dueText("59: nothing is there again", Edges.seen(new HabitRegistry()), Edges.seen(one));
        HabitRegistry many = Edges.lived();
        for (int left = 7; left >= 0; left--) {
            EDGES.answers("59: left", left, many, HabitRegistry::undo);
        }
    }

    /** Undo behind more changes than are kept, changes behind undo, and undo again: the years tell the changes. */
    private static void promise59Refilled() {
        for (int first = 0; first <= 11; first++) {
            for (int undone = 0; undone <= Math.min(first, 8); undone++) {
                for (int second = 0; second <= 11; second++) {
                    refilled(first, undone, second);
                }
            }
        }
    }

    private static void refilled(int first, int undone, int second) {
        String what = "59: " + first + " changes, " + undone + " undone, " + second + " changes, ";
        HabitRegistry registry = new HabitRegistry();
        for (int change = 0; change < first; change++) {
            registry.passYears(2);
        }
        for (int change = 0; change < undone; change++) {
            registry.undo();
        }
        for (int change = 0; change < second; change++) {
            registry.passYears(3);
        }
        int left = Math.min(Math.min(first, 8) - undone + second, 8);
        int years = 2 * (first - undone) + 3 * second;
        for (int change = 0; change < left; change++) {
            CHECKS.due(what + "undo " + change, left - change - 1, registry.undo());
            years -= change < second ? 3 : 2;
            CHECKS.due(what + "years then " + change, years, registry.year());
        }
        CHECKS.badState(what + "no more", registry::undo);
        CHECKS.due(what + "years at last", years, registry.year());
    }

    private static void promise60() {
        EDGES.answers("60: nothing at first", 0, new HabitRegistry(), HabitRegistry::undoCount);
        EDGES.answers("60: more than eight changes", 8, Edges.lived(), HabitRegistry::undoCount);
        HabitRegistry registry = new HabitRegistry();
        for (int change = 1; change <= 10; change++) {
            registry.addFounder();
            EDGES.answers("60: change " + change, Math.min(change, 8), registry, HabitRegistry::undoCount);
        }
        for (int left = 7; left >= 0; left--) {
            registry.undo();
            EDGES.answers("60: undone to " + left, left, registry, HabitRegistry::undoCount);
        }
        Edges.outcome(registry, HabitRegistry::undo);
        EDGES.answers("60: nothing behind the end", 0, registry, HabitRegistry::undoCount);
        registry.addFounder();
        EDGES.answers("60: one again", 1, registry, HabitRegistry::undoCount);
        registry.saveSnapshot();
        EDGES.answers("60: a snapshot is no change", 1, registry, HabitRegistry::undoCount);
        registry.restoreSnapshot();
        EDGES.answers("60: none behind a restored snapshot", 0, registry, HabitRegistry::undoCount);
    }

    private static void promise61() {
        EDGES.answers("61: no people", 0, new HabitRegistry(), HabitRegistry::saveSnapshot);
        EDGES.answers("61: living and dead", 9, Edges.lived(), HabitRegistry::saveSnapshot);
        EDGES.answers("61: the most people", 16, Edges.fullOfPeople(), HabitRegistry::saveSnapshot);
        HabitRegistry registry = Edges.lived();
        String before = Edges.seen(registry);
        registry.saveSnapshot();
        CHECKS.dueText("61: saving changes nothing that is seen", before, Edges.seen(registry));
        registry.passYears(9);
        registry.bury(0);
        registry.restoreSnapshot();
        String data = before.substring(0, before.indexOf('|'));
        CHECKS.due("61: in place of the earlier one", true, Edges.seen(registry).startsWith(data));
    }

    private static void promise62() {
        EDGES.throwing("62: no snapshot", Edges.STATE, Edges::unborn, HabitRegistry::restoreSnapshot);
        EDGES.throwing("62: no snapshot of people", Edges.STATE, Edges::fullOfPeople, HabitRegistry::restoreSnapshot);
        HabitRegistry empty = new HabitRegistry();
        empty.saveSnapshot();
        empty.addFounder();
        EDGES.answers("62: a snapshot of nothing", 0, empty, HabitRegistry::restoreSnapshot);
        CHECKS.dueText("62: nothing is there again", Edges.seen(new HabitRegistry()), Edges.seen(empty));
        EDGES.answers("62: restored at once", 0, empty, HabitRegistry::restoreSnapshot);
        HabitRegistry registry = Edges.lived();
        EDGES.answers("62: the number of people", 6, registry, HabitRegistry::restoreSnapshot);
        String restored = Edges.seen(registry);
        registry.bury(0);
        registry.addFounder();
        EDGES.answers("62: changes behind it can be undone", 1, registry, HabitRegistry::undo);
        EDGES.answers("62: down to it", 0, registry, HabitRegistry::undo);
        CHECKS.dueText("62: as it was restored", restored, Edges.seen(registry));
        CHECKS.badState("62: no change ahead of it can be undone", registry::undo);
        othersAtTheSameIndices();
    }

    private static void othersAtTheSameIndices() {
        HabitRegistry registry = new HabitRegistry();
        registry.saveSnapshot();
        Checks.execute(registry, "f;c0;c1;c0;a0d1;a1s9;e0;p0");
        String first = Checks.data(registry) + Checks.positions(registry);
        registry.undo();
        Checks.execute(registry, "f;f;f;c1;a3h5;a3s2;b3;f;a4d9");
        String second = Checks.data(registry) + Checks.positions(registry);
        registry.saveSnapshot();
        registry.undo();
        Checks.execute(registry, "f;c0;c1;c0;a0d1;a1s9;e0;p0");
        CHECKS.dueText("59: the first again", first, Checks.data(registry) + Checks.positions(registry));
        EDGES.answers("62: others than now", 5, registry, HabitRegistry::restoreSnapshot);
        CHECKS.dueText("62: the second again", second, Checks.data(registry) + Checks.positions(registry));
    }
}
