/** Promises 50 to 55 and 58: text output, the input and its commands. */
public final class TextTest {
    private static final Checks CHECKS = new Checks("TextTest");

    public static void main(String[] arguments) {
        people();
        lines();
        outputEdges();
        appending();
        everyCommand();
        allOrNone();
        unaccepted();
        rejected();
        syntaxErrors();
        rightInputs();
        CHECKS.end();
    }

    private static void duePerson(HabitRegistry registry, int person, String want) {
        int length = registry.writePerson(person);
        CHECKS.due("length of person " + person, want.length(), length);
        CHECKS.dueText("person " + person, want, Checks.output(registry, length));
    }

    private static void dueLine(HabitRegistry registry, int person, String want) {
        int length = registry.writeLine(person);
        CHECKS.due("length of line " + person, want.length(), length);
        CHECKS.dueText("line " + person, want, Checks.output(registry, length));
    }

    private static void people() {
        HabitRegistry registry = Checks.after("f;f;c1;c1;c1;a4h2;a4d7;c4;e1;a1h1;a1s2;a1d3");
        duePerson(registry, 4, "4<1 d7! h2");
        duePerson(registry, 1, "1 d3 s2 h1");
        duePerson(registry, 0, "0");
        registry.bury(4);
        duePerson(registry, 4, "4+<1");
        duePerson(registry, 5, "5<4 d7! h2");
        registry.bury(0);
        duePerson(registry, 0, "0+");
        HabitRegistry line = Checks.after("f;c0;c1;c2;c3;c4;c5;c6;c7;c8;c9;c10;c11;c12;c13");
        line.addChild(14);
        Checks.execute(line, "a14d9;a14s9;a14h9;e0;e1;e2;b15");
        duePerson(line, 14, "14<13 d9! s9! h9!");
        duePerson(line, 15, "15+<14");
        dueLine(line, 15, "15<14<13<12<11<10<9<8<7<6<5<4<3<2<1<0");
        CHECKS.noIndex("person 16", () -> line.writePerson(16));
        CHECKS.noIndex("person -1", () -> line.writePerson(-1));
    }

    private static void lines() {
        HabitRegistry registry = Checks.after("f;f;c1;c1;c1;c4;c4;c4;c4;c4;b4");
        dueLine(registry, 9, "9<4<1");
        dueLine(registry, 0, "0");
        CHECKS.noIndex("line of 10", () -> registry.writeLine(10));
        CHECKS.noIndex("line of -1", () -> registry.writeLine(-1));
        CHECKS.dueText("a call that throws leaves the output", "0", Checks.output(registry, 1));
    }

    private static void outputEdges() {
        HabitRegistry registry = Checks.after("f;c0");
        CHECKS.noIndex("empty at first", () -> registry.outputAt(0));
        registry.writeLine(1);
        CHECKS.due("the last character", '0', registry.outputAt(2));
        CHECKS.noIndex("behind the end", () -> registry.outputAt(3));
        CHECKS.noIndex("ahead of the start", () -> registry.outputAt(-1));
        CHECKS.noIndex("the highest int", () -> registry.outputAt(Integer.MAX_VALUE));
        registry.writePerson(0);
        CHECKS.due("in place of the earlier output", '0', registry.outputAt(0));
        CHECKS.noIndex("nothing of the earlier output", () -> registry.outputAt(1));
        registry.undo();
        CHECKS.due("undo leaves the output", '0', registry.outputAt(0));
    }

    private static void appending() {
        HabitRegistry registry = new HabitRegistry();
        for (char code : new char[] {0, 31, 127, 128, 255, 256, 65535}) {
            CHECKS.badArgument("code " + (int) code, () -> registry.appendInput(code));
        }
        CHECKS.due("lowest code", 1, registry.appendInput(' '));
        CHECKS.due("highest code", 2, registry.appendInput('~'));
        for (int length = 3; length <= 60; length++) {
            CHECKS.due("length", length, registry.appendInput('f'));
        }
        CHECKS.badState("full", () -> registry.appendInput('f'));
        CHECKS.badArgument("a wrong code is named first", () -> registry.appendInput((char) 31));
        CHECKS.badArgument("the input is as it was", registry::execute);
        CHECKS.due("its first character is wrong", 0, registry.syntaxErrorOffset());
        CHECKS.due("the input is empty after execute", 1, registry.appendInput('f'));
    }

    private static void everyCommand() {
        HabitRegistry registry = new HabitRegistry();
        CHECKS.due("commands", 12, Checks.execute(registry, "f;c0;c00;a1d9;a01s4;a2h5;n0;p1;g2>01;c1;e0;y2"));
        CHECKS.dueText("data after them", "-1 0 0 1 1d6! 1s4 1h3 2 0 0 0", Checks.data(registry));
        CHECKS.due("a broken entail and a burial", 2, Checks.execute(registry, "k0;b1"));
        CHECKS.dueText("data after these", "-1 0+ 0 1 3d3 3s4 3h3 2 0 0 0", Checks.data(registry));
        CHECKS.due("two calls of execute are two changes", 2, registry.undoCount());
        registry.undo();
        registry.undo();
        CHECKS.dueText("both are undone", "0 0 0 0", Checks.data(registry));
        HabitRegistry many = Checks.after("f;c0;c0;c0;c0;c0;c0;c0;c0;c0;c0;c0");
        Checks.execute(many, "a11d5;g00>10");
        CHECKS.due("indices of two digits", 10, many.holderOf(0));
    }

    private static void allOrNone() {
        HabitRegistry registry = Checks.after("f;a0d5");
        registry.saveSnapshot();
        String before = Checks.data(registry);
        Checks.append(registry, "f;c0;y9;b0;b2;n0");
        CHECKS.rejected("the last one is rejected", registry, HabitRegistry.COMMAND_REJECTED, 5, registry::execute);
        CHECKS.due("its cause", HabitRegistry.EXTINCT, registry.causeReason());
        CHECKS.dueText("nothing was changed", before, Checks.data(registry));
        CHECKS.due("no change more", 1, registry.undoCount());
        CHECKS.due("the input is empty", 1, registry.appendInput('f'));
        CHECKS.due("and goes on", 1, registry.execute());
        CHECKS.due("one change more", 2, registry.undoCount());
        registry.undo();
        CHECKS.dueText("undone", before, Checks.data(registry));
    }

    private static void unaccepted() {
        String[] inputs = {"c1", "b9", "a1d5", "a0d0", "p1", "n99", "e1", "k1", "g1>0", "g0>1", "y0", "f;c0;b3",
            "a0s0;b9;a0d1", "g0>99"};
        for (String input : inputs) {
            HabitRegistry registry = Checks.after("f;a0d5");
            CHECKS.badState(input, () -> Checks.execute(registry, input));
            CHECKS.noElement(input + " is no rejection", registry::rejectionReason);
            CHECKS.noElement(input + " is no syntax error", registry::syntaxErrorOffset);
            CHECKS.dueText(input + " changes nothing", "-1 0d5 0 0 0 0", Checks.data(registry));
            CHECKS.due(input + " is no change", 1, registry.undoCount());
            CHECKS.due(input + " leaves the input empty", 1, registry.appendInput('f'));
        }
        HabitRegistry dead = Checks.after("f;b0");
        CHECKS.badState("a strength that is not accepted, of the dead", () -> Checks.execute(dead, "a0d0"));
        CHECKS.badState("the first that fails has a wrong index", () -> Checks.execute(dead, "b1;b0"));
        CHECKS.rejected("the first that fails is rejected", dead, HabitRegistry.COMMAND_REJECTED, 0,
                () -> Checks.execute(dead, "b0;b1"));
    }

    private static void dueCause(String setting, String input, int command, int cause) {
        HabitRegistry registry = Checks.after(setting);
        CHECKS.rejected(input, registry, HabitRegistry.COMMAND_REJECTED, command,
                () -> Checks.execute(registry, input));
        CHECKS.due(input + ", cause", cause, registry.causeReason());
    }

    private static void rejected() {
        String full = "f;f;f;f;f;f;f;f;f;f;f;f;f;f;f;f";
        dueCause(full, "f", 0, HabitRegistry.PEOPLE_LIMIT);
        dueCause(full, "y1;c15", 1, HabitRegistry.PEOPLE_LIMIT);
        dueCause("f", "c0;b1;c1", 2, HabitRegistry.DEAD);
        dueCause("f", "b0;b0", 1, HabitRegistry.DEAD);
        dueCause("f", "b0;a0d1", 1, HabitRegistry.DEAD);
        dueCause("f", "a0d1;a0d1", 1, HabitRegistry.HAS_KIND);
        dueCause("f", "a0d9;p0", 1, HabitRegistry.FULL_STRENGTH);
        dueCause("f", "a0d1;n0;p0", 2, HabitRegistry.EXTINCT);
        dueCause("f", "a0d1;n0;e0", 2, HabitRegistry.EXTINCT);
        dueCause("f", "a0d1;n0;k0", 2, HabitRegistry.EXTINCT);
        dueCause("f", "a0d1;e0", 1, HabitRegistry.NO_DIRECT_HEIR);
        dueCause("f", "c0;a0d1;e0;e0", 3, HabitRegistry.ENTAILED);
        dueCause("f", "a0d1;k0", 1, HabitRegistry.NOT_ENTAILED);
        dueCause("f", "a0d1;g0>0", 1, HabitRegistry.SAME_HOLDER);
        dueCause("f;f", "a0d1;g0>1", 1, HabitRegistry.TOO_DISTANT);
        HabitRegistry registry = Checks.after("f");
        for (int habit = 0; habit < 20; habit++) {
            Checks.execute(registry, habit < 10 ? "a0d1;n0" + habit : "a0d1;n" + habit);
        }
        CHECKS.rejected("a 21st habit", registry, HabitRegistry.COMMAND_REJECTED, 0,
                () -> Checks.execute(registry, "a0d1"));
        CHECKS.due("its cause", HabitRegistry.HABIT_LIMIT, registry.causeReason());
    }

    private static void syntaxErrors() {
        Object[][] due = {{"", 0}, {" ", 0}, {";", 0}, {"F", 0}, {"0", 0}, {"f;", 2}, {"f;;", 2}, {"f f", 1},
            {"f0", 1}, {"ff", 1}, {"f ", 1}, {"c", 1}, {"cx", 1}, {"c-1", 1}, {"c123", 3}, {"c1 ", 2}, {"b;", 1},
            {"b12>", 3}, {"a", 1}, {"ad", 1}, {"a0", 2}, {"a00", 3}, {"a000", 3}, {"a0x", 2}, {"a0d", 3},
            {"a0dd", 3}, {"a0d1s", 4}, {"a0d12", 4}, {"a12h1;", 6}, {"p", 1}, {"n", 1}, {"e", 1}, {"k", 1},
            {"g", 1}, {"g>", 1}, {"g0", 2}, {"g00", 3}, {"g000", 3}, {"g0<1", 2}, {"g0>", 3}, {"g0>>", 3},
            {"g1>2>", 4}, {"g1>234", 5}, {"y", 1}, {"yy", 1}, {"y12", 2}, {"y1;y", 4},
            {"f;c0;b0;q", 8}, {"f;c0;b0 ;q", 7}, {"u", 0}, {"f;a0d5;g0>1;e0;k0;p0;n0;y", 25}, {"c1:", 2}, {"c/", 1},
            {"b9;x", 3}};
        for (Object[] row : due) {
            HabitRegistry registry = Checks.after("f;c0");
            String input = (String) row[0];
            CHECKS.badArgument("'" + input + "'", () -> Checks.execute(registry, input));
            CHECKS.due("offset in '" + input + "'", (Integer) row[1], registry.syntaxErrorOffset());
            CHECKS.due("'" + input + "' changes nothing", 2, registry.peopleCount());
            CHECKS.due("'" + input + "' leaves the input empty", 1, registry.appendInput('f'));
            registry.execute();
            CHECKS.due("'" + input + "' stays the latest", (Integer) row[1], registry.syntaxErrorOffset());
        }
        HabitRegistry registry = new HabitRegistry();
        CHECKS.badArgument("too long by a separator", () -> Checks.execute(registry, "f;".repeat(30)));
        CHECKS.due("ends too early", 60, registry.syntaxErrorOffset());
        CHECKS.noElement("a syntax error is no rejection", registry::rejectionReason);
    }

    private static void rightInputs() {
        HabitRegistry registry = new HabitRegistry();
        String years = "y9" + ";y9".repeat(19);
        CHECKS.due("commands in 59 characters", 20, Checks.execute(registry, years));
        CHECKS.due("years of them", 180, registry.year());
        CHECKS.due("commands in 60 characters", 20, Checks.execute(registry, "f;c00" + ";y1".repeat(16) + ";b00;y1"));
        CHECKS.due("one character", 1, Checks.execute(registry, "f"));
        CHECKS.noElement("no syntax error", registry::syntaxErrorOffset);
    }
}
