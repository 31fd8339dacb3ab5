/** Tests of single sentences of the document: each names its promise and quotes the words without which it would fail. */
final class Sentences {
    /** Users, roles and types of most tests: the contexts 0 and 1 are valid, 2 is not. */
    static final String HEAD = "type a;type b;type c;role r{a b};user u{r};";
    static final String FREE = HEAD + "allow * *:file *;allow * *:dir *;allow * *:process *;allow * *:pipe *;allow * *:handle *;";

    private final Document document = new Document();
    private String promise;
    private String section;
    private String quote;
    private int wrong;

    /** The sentences that follow stand in the section of the promise itself. */
    void promise(String name) {
        promise(name, name.substring(0, name.indexOf(':')));
    }

    /** The sentences that follow stand in another section, and say what the promise's words mean. */
    void promise(String name, String where) {
        promise = name;
        section = where;
    }

    /** FREE, but what is named here (a class and its permissions) is denied of contexts with the type b. */
    static String freeBut(String... denied) {
        StringBuilder policy = new StringBuilder(FREE);
        for (String each : denied) {
            policy.append("limit ").append(each).append(" t2!=b;");
        }
        return policy.toString();
    }

    /**
     * Does the lines on a new house with this policy (none if it is empty). A line is a call of Script's, perhaps with
     * " = " and what it must answer; "9* " ahead of it does it nine times, with 1 .. 9 for %; "! " ahead of it: it
     * changes nothing (but cache, identifiers and records, if it throws nothing). "text " puts what is behind it in
     * the text's place.
     */
    void holds(String words, String policy, String... lines) {
        quoting(words);
        Script script = new Script();
        if (!policy.isEmpty()) {
            script.put(policy);
            expect("load", "-1", script.answer("load"));
        }
        for (String line : lines) {
            if (line.startsWith("text ")) {
                script.answer("end 0");
                script.put(line.substring(5));
            } else {
                repeated(script, line);
            }
        }
        expect("a test with too many calls", "false", String.valueOf(script.hasTooManyCalls()));
    }

    private void quoting(String words) {
        quote = words;
        expect("the document has these words in " + section, "true", String.valueOf(document.has(section, words)));
    }

    private void repeated(Script script, String line) {
        int star = line.indexOf("* ");
        int times = star < 0 ? 1 : Integer.parseInt(line.substring(0, star));
        for (int i = 0; i < times; i++) {
            String each = star < 0 ? line : line.substring(star + 2).replace("%", String.valueOf(i + 1));
            single(script, each);
        }
    }

    private void single(Script script, String line) {
        boolean still = line.startsWith("! ");
        int at = line.indexOf(" = ");
        String call = line.substring(still ? 2 : 0, at < 0 ? line.length() : at);
        String due = at < 0 ? "" : Script.due(line.substring(at + 3));
        boolean whole = due.endsWith("Exception");
        String before = still ? script.state(whole) : "";
        String got = script.answer(call);
        expect(call, at < 0 && !got.endsWith("Exception") ? got : due, got);
        expect("what there is behind " + call, before, still ? script.state(whole) : "");
    }

    private void expect(String what, String due, String got) {
        if (!due.equals(got)) {
            wrong++;
            System.out.println(promise + ", " + section + ", \"" + quote + "\": " + what + " answered " + got
                    + ", due is " + due);
        }
    }

    /** Texts of policies; the ^ stands ahead of the token at fault, and without one there is no fault. */
    void faults(String words, String... marked) {
        for (String each : marked) {
            fault(words, each, "load");
        }
    }

    /** The same for texts of events. */
    void faultsOfEvents(String words, String... marked) {
        for (String each : marked) {
            fault(words, each, "events");
        }
    }

    private void fault(String words, String marked, String call) {
        quoting(words);
        Script script = new Script();
        script.put(marked.replace("^", ""));
        int due = marked.indexOf('^');
        String got = script.answer(call);
        // A policy without a fault may be one that can't be taken; here its text alone matters.
        boolean right = due < 0 && call.equals("load") && got.equals("IllegalStateException");
        expect(marked, String.valueOf(due), right ? "-1" : got);
    }

    static String times(int n, String text) {
        StringBuilder all = new StringBuilder();
        for (int i = 0; i < n; i++) {
            all.append(text.replace("%", String.valueOf((char) ('a' + i))));
        }
        return all.toString();
    }

    void finish() {
        if (wrong > 0) {
            System.out.println(wrong + " sentences are broken");
            System.exit(1);
        }
    }
}
