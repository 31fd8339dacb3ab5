/** The edges of promises 6 to 8, sentence by sentence: vector, move and identifier. */
public final class Edges06To08Test {
    private static final Sentences S = new Sentences();
    /** Valid are 0, 1, 1000, 1001, 1101 and 1102. */
    private static final String HEAD = "attribute x;attribute n;type a,x;type b,x;type c;role r{a b};role s{b c};user "
            + "u{r};user v{r s};";
    private static final String ALL = HEAD + "allow * *:file*;";

    public static void main(String[] args) {
        valid();
        rules();
        limits();
        conditions();
        vector();
        move();
        identifier();
        S.finish();
    }

    private static void valid() {
        S.promise("Promise 6: vector", "Terms 2");
        S.holds("CONTEXTS are a user, a role and a type, as numbers in the order of their declaration.", ALL
                + "limit file read t2==c;" + "limit file write u2==u1;limit file append r2==r1;", "vector 0 1101 0 = 1016",
                "vector 0 1102 0 = 1017", "vector 1001 1102 0 = 1019", "vector 1101 1102 0 = 1023");
        S.holds("One is VALID if the user has the role and the role the type.", ALL, "vector 0 0 0 = 1023",
                "vector 1 0 0 = 1023", "vector 2 0 0 = IllegalArgument", "vector 100 0 0 = IllegalArgument",
                "vector 101 0 0 = IllegalArgument", "vector 102 0 0 = IllegalArgument", "vector 1000 0 0 = 1023",
                "vector 1002 0 0 = IllegalArgument", "vector 1100 0 0 = IllegalArgument", "vector 1101 0 0 = 1023",
                "vector 1102 0 0 = 1023", "vector 0 1102 0 = 1023", "vector 0 2 0 = IllegalArgument",
                "vector 0 101 0 = IllegalArgument", "vector 0 1100 0 = IllegalArgument");
        S.holds("One is VALID if the user has the role and the role the type.", ALL, "vector 3 0 0 = IllegalArgument",
                "vector 1103 0 0 = IllegalArgument", "vector 32 0 0 = IllegalArgument", "vector 64 0 0 = IllegalArgument",
                "vector 0 33 0 = IllegalArgument", "vector 96 0 0 = IllegalArgument", "vector 200 0 0 = IllegalArgument",
                "vector 1201 0 0 = IllegalArgument", "vector 2000 0 0 = IllegalArgument", "vector 2101 0 0 = IllegalArgument",
                "vector 99 0 0 = IllegalArgument", "vector 901 0 0 = IllegalArgument", "vector -1 0 0 = IllegalArgument",
                "vector -1000 0 0 = IllegalArgument", "vector 0x7fffffff 0 0 = IllegalArgument",
                "vector 0x80000000 0 0 = IllegalArgument", "vector 0 -1 0 = IllegalArgument", "vector 0 3 0 = IllegalArgument",
                "vector 0 2000 0 = IllegalArgument", "vector 0 0x80000000 0 = IllegalArgument",
                "vector 10000 0 0 = IllegalArgument");
        StringBuilder most = new StringBuilder(Sentences.times(24, "type %;"));
        most.append("role aa{a};role bb{a};role cc{a};role dd{a};role ee{a};role ff{a x};");
        most.append("user gg{aa};user hh{aa};user ii{aa};user jj{ff};");
        S.holds("One is VALID if the user has the role and the role the type.", most
                + "allow x a:file read;allow x self:file look;", "vector 3523 3500 0 = 1", "vector 3523 3523 0 = 256",
                "vector 3524 0 0 = IllegalArgument", "vector 3522 0 0 = IllegalArgument", "vector 3623 0 0 = IllegalArgument",
                "vector 4523 0 0 = IllegalArgument", "vector 2523 0 0 = IllegalArgument");
    }

    private static void rules() {
        S.promise("Promise 6: vector", "Terms 2");
        S.holds("all permissions that some allow has for their types", HEAD
                + "allow a b:file read;allow x b:file write;allow a *:file{look entry};"
                + "allow a b:dir add;never b a:file*;audit b a:file*;quiet b a:file*;", "vector 0 1 0 = 771",
                "vector 0 0 0 = 768", "vector 1 1 0 = 2", "vector 1 0 0 = 0", "vector 0 1 1 = 4", "vector 0 1 2 = 0",
                "vector 1000 1101 0 = 771", "vector 1102 1 0 = 0");
        S.promise("Promise 6: vector", "Terms 1");
        S.holds("An attribute MEANS the types that have it; * all types; self the source itself.", HEAD
                + "allow x n:file read;allow n x:file write;"
                + "allow x x:file append;allow * c:file look;allow c *:file entry;allow * self:file link;", "vector 0 1 0 = 4",
                "vector 0 0 0 = 36", "vector 1102 0 0 = 512", "vector 0 1102 0 = 256", "vector 1102 1102 0 = 800",
                "vector 1101 0 0 = 4");
        S.holds("An attribute MEANS the types that have it",
                "attribute x;type a;allow x *:file read;type b,x;role r{a b};user u{r};", "vector 0 0 0 = 0",
                "vector 1 0 0 = 1");
        String sentence = "their permissions, by bits from 0 on: file: read write append create unlink link rename relabel "
                + "look entry; dir: read search " + "add remove create unlink rename relabel look; process: fork become "
                + "signal trace switch; pipe: read write create; handle: use.";
        String[] names = {"file: read write append create unlink link rename relabel look entry",
                "dir: read search add remove create unlink rename relabel look", "process: fork become signal trace switch",
                "pipe: read write create", "handle: use"};
        for (int kind = 0; kind < names.length; kind++) {
            String[] words = names[kind].replace(":", "").split(" ");
            S.holds(sentence, HEAD + "allow a a:" + words[0] + "*;", "vector 0 0 " + kind + " = "
                    + ((1 << words.length - 1) - 1), "vector 0 0 " + (kind + 1) % 5 + " = 0");
            for (int bit = 0; bit < words.length - 1; bit++) {
                S.holds(sentence, HEAD + "allow a a:" + words[0] + " " + words[bit + 1] + ";", "vector 0 0 " + kind + " = "
                        + (1 << bit));
            }
        }
    }

    private static void limits() {
        S.promise("Promise 6: vector", "Terms 2");
        S.holds("less those of limits of the class, with that permission, whose condition doesn't hold", HEAD
                + "allow a *:file*;allow a *:dir*;"
                + "limit file{read write}t2==b;limit file{write look}t1==b;limit dir*t2==a;", "vector 0 1 0 = 765",
                "vector 0 0 0 = 764", "vector 0 0 1 = 511", "vector 0 1 1 = 0", "vector 1 0 0 = 0", "vector 1 1 1 = 0");
        limit("u1==u2", 0, 1, true, 0, 1000, false, 1101, 1000, true);
        limit("u2!=u1", 0, 1, false, 0, 1000, true, 1000, 0, true);
        limit("r1==r2", 0, 1000, true, 0, 1101, false, 1102, 1101, true);
        limit("r2!=r1", 0, 1000, false, 1000, 1101, true, 1101, 1, true);
        limit("t1==t2", 1, 1101, true, 0, 1, false, 1000, 0, true);
        limit("t2!=t1", 1, 1101, false, 0, 1, true, 1102, 1101, true);
        S.promise("Promise 6: vector", "Terms 2");
        S.holds("t1 == NAME holds if that type is meant", ALL
                + "limit file read t1==b;limit file write t2==b;limit file append t1!=x;"
                + "limit file create t2!=x;limit file link t1==n;limit file look t2!=n;", "vector 1 0 0 = 977",
                "vector 0 1 0 = 978", "vector 1101 1000 0 = 977", "vector 1000 1101 0 = 978", "vector 1102 1102 0 = 988",
                "vector 1102 1 0 = 982");
        S.holds("t1 == NAME holds if that type is meant",
                "attribute x;type a;limit file*t1==x;type b,x;role r{a b};user u{r};allow * *:file*;", "vector 0 0 0 = 0",
                "vector 1 0 0 = 1023");
    }

    /** Three questions: two contexts and whether the condition holds for them. */
    private static void limit(String condition, Object... questions) {
        S.promise("Promise 6: vector", "Terms 2");
        String[] lines = new String[questions.length / 3];
        for (int i = 0; i < lines.length; i++) {
            lines[i] = "vector " + questions[3 * i] + " " + questions[3 * i + 1] + " 0 = " + ((Boolean) questions[3 * i
                    + 2] ? 1023 : 1022);
        }
        S.holds("of u1 r1 t1, the source's user, role and type, and u2 r2 t2, the target's", ALL + "limit file read "
                + condition + ";", lines);
    }

    private static void conditions() {
        S.promise("Promise 6: vector", "Terms 1");
        for (int i = 0; i < 8; i++) {
            boolean p = (i & 1) != 0;
            boolean q = (i & 2) != 0;
            boolean s = (i & 4) != 0;
            String a = p ? "u1==u2" : "u1!=u2";
            String b = q ? "t1==a" : "t1!=a";
            String c = s ? "t2==x" : "t2!=x";
            condition("CHOICES with or between them; a choice: TESTS with and between them", a + " or " + b + " and " + c,
                    p || q && s);
            condition("CHOICES with or between them; a choice: TESTS with and between them", a + " and " + b + " or " + c,
                    p && q || s);
            condition("CHOICES with or between them", a + " or " + b + " or " + c, p || q || s);
            condition("a choice: TESTS with and between them", a + " and " + b + " and " + c, p && q && s);
            condition("a test: ( CONDITION )", "(" + a + " or " + b + ")and " + c, (p || q) && s);
            condition("a test: ( CONDITION )", a + " and(" + b + " or " + c + ")", p && (q || s));
            condition("not and a test", "not " + a + " and " + b + " or " + c, !p && q || s);
            condition("not and a test", "not " + a + " or " + b + " and not " + c, !p || q && !s);
            condition("not and a test", "not(" + a + " and " + b + ")", !(p && q));
            condition("not and a test", "not(" + a + " or not " + b + ")or not not " + c, !(p || !q) || s);
            condition("not and a test", "not(" + a + ")and " + b, !p && q);
        }
        String deep = "(u1==u2 or t1==c and(u1==u2 or t1==c and(u1==u2 or t1==c and(u1!=u2 or t1==a and(u1!=u2 or t1==a and "
                + "not not(t1==c)))))";
        condition("at most ten ( and not in one another", deep + ")", true);
        condition("at most ten ( and not in one another", "not " + deep + ")", false);
        condition("at most ten ( and not in one another", "not not not not not not not not not not t1==a", true);
        condition("at most ten ( and not in one another", "not not not not not not not not not t1==a", false);
        condition("at most ten ( and not in one another", "((((((((((t1==c))))))))))or u1!=u2 or ((((((((((t1==a))))))))))",
                true);
    }

    private static void condition(String words, String condition, boolean holds) {
        S.holds(words, ALL + "limit file{read write}" + condition + ";", "vector 0 1 0 = " + (holds ? 1023 : 1020));
    }

    private static void vector() {
        S.promise("Promise 6: vector");
        S.holds("The vector of two contexts, each user * 1000 + role * 100 + type, and a class, without the cache (it is no "
                + "question).", ALL + "audit * *:file*;", "! vector 1101 1 0 = 1023", "! vector 1 0 1 = 0", "about 0 = 0",
                "about 1 = 0", "about 2 = 0", "about 3 = 0", "about 7 = 0", "identifier 1101 = NONE");
        S.holds("IllegalStateException if there is no policy", "", "vector 0 0 0 = IllegalState", "text " + HEAD, "load = NONE",
                "vector 0 0 0 = 0");
        S.holds("IllegalArgumentException if one isn't valid, or there is no such class.", ALL,
                "! vector 2 0 0 = IllegalArgument", "vector 0 2 0 = IllegalArgument", "vector 0 0 -1 = IllegalArgument",
                "vector 0 0 5 = IllegalArgument", "vector 0 0 4 = 0", "vector 0 0 0x7fffffff = IllegalArgument",
                "vector 0 0 0x80000000 = IllegalArgument");
        S.promise("Promise 6: vector", "Behind Terms 6");
        S.holds("Of several exceptions of other calls that one goes which the call names first.", "",
                "vector -1 0 0 = IllegalState", "vector 0 99 0 = IllegalState", "vector 0 0 5 = IllegalState");
    }

    private static void move() {
        S.promise("Promise 7: move");
        String policy = HEAD
                + "move a b:file c;move a b:dir b;move b a:process a;move c c:handle b;move c c:pipe c;move a b:file c;";
        S.holds("The type that a new one has: of the move of two types and a class; NONE without one.", policy,
                "move 0 1 0 = 2", "move 0 1 1 = 1", "move 1 0 2 = 0", "move 2 2 4 = 1", "move 2 2 3 = 2", "move 0 1 2 = NONE",
                "move 1 0 0 = NONE", "move 0 0 0 = NONE", "move 1 1 1 = NONE", "! move 2 1 0 = NONE");
        S.holds("IllegalStateException if there is no policy", "", "move 0 0 0 = IllegalState", "text " + HEAD, "load = NONE",
                "move 0 0 0 = NONE");
        S.holds("IllegalArgumentException if there are no such types or class.", policy, "move -1 0 0 = IllegalArgument",
                "move 3 0 0 = IllegalArgument", "move 0 -1 0 = IllegalArgument", "move 0 3 0 = IllegalArgument",
                "move 0 0 -1 = IllegalArgument", "move 0 0 5 = IllegalArgument", "move 0x7fffffff 0 0 = IllegalArgument",
                "move 0 0x80000000 0 = IllegalArgument", "! move 0 1 0x7fffffff = IllegalArgument", "move 2 2 4 = 1",
                "move 100 0 0 = IllegalArgument");
        S.promise("Promise 7: move", "Behind Terms 6");
        S.holds("Of several exceptions of other calls that one goes which the call names first.", "",
                "move -1 0 0 = IllegalState", "move 0 0 5 = IllegalState");
    }

    private static void identifier() {
        S.promise("Promise 8: identifier");
        S.holds("The identifier of a context; NONE if it has none yet.", Sentences.FREE, "identifier 0 = NONE", "0 look 0 = 1",
                "identifier 0 = 1", "identifier 1 = NONE", "identifier 2 = NONE", "identifier 0x7fffffff = NONE",
                "! identifier 100 = NONE", "about 7 = 1");
        S.holds("IllegalArgumentException if the number is below 0.", "", "identifier -1 = IllegalArgument",
                "identifier 0x80000000 = IllegalArgument", "identifier 0 = NONE", "text " + Sentences.FREE, "load = NONE",
                "! identifier -1 = IllegalArgument", "identifier 0 = NONE");
        S.promise("Promise 8: identifier", "Terms 2");
        S.holds("IDENTIFIERS are given to contexts, from 1 on, in the order in which they come into questions (the source "
                + "ahead of the target); they stay.", Sentences.FREE + "limit process switch t2!=b;", "0 switch 1 = DENIED",
                "identifier 0 = 1", "identifier 1 = 2", "about 7 = 2", "0 look 0 = 1", "about 7 = 2", "crash 0",
                "identifier 1 = 2", "text " + Sentences.FREE, "load = NONE", "identifier 1 = 2", "0 switch 1 = 0",
                "0 switch 0 = 0", "identifier 0 = 1", "about 7 = 2");
        manyIdentifiers();
        S.holds("in the order in which they come into questions", Sentences.FREE, "label 0 1", "identifier 1 = NONE",
                "vector 0 1 0 = 1023", "0 switch 2 = NO_CONTEXT", "0 leave = 0", "crash 0", "about 7 = 0", "0 look 0 = 1",
                "identifier 0 = 1", "identifier 1 = NONE", "label 0 1", "0 look 0 = 1", "identifier 1 = 2");
    }

    private static void manyIdentifiers() {
        StringBuilder policy = new StringBuilder(Sentences.times(24, "type %;"));
        String all = "{a b c d e f g h i j k l m n o p q r s t u v w x};";
        for (String role : "r0 r3 r4 r5 r6 r7".split(" ")) {
            policy.append("role ").append(role).append(role.equals("r3") ? "{a};" : all);
        }
        policy.append(Sentences.times(4, "user u_%{r0 r3 r4 r5 r6 r7};")).append("quiet a *:process*;");
        String[] lines = new String[304];
        for (int i = 1; i <= 300; i++) {
            // Every number of users and roles comes, each with other types.
            int context = i % 4 * 1000 + (i / 4 % 6 == 1 ? 0 : i / 4 % 6) * 100 + i / 24 + 1;
            lines[i - 1] = "0 switch " + context + " = DENIED";
        }
        lines[300] = "about 1 = 300";
        lines[301] = "about 7 = " + different(lines, 300);
        lines[302] = "identifier 0 = 1";
        lines[303] = "identifier 1001 = 2";
        S.holds("IDENTIFIERS are given to contexts, from 1 on", policy.toString(), lines);
    }

    /** How many different ones there are, and one more for the process's own. */
    private static int different(String[] lines, int count) {
        return (int) java.util.Arrays.stream(lines, 0, count).distinct().count() + 1;
    }
}
