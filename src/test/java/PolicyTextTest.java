/** Promises 4 and 5: load and policy, with the language of policies (Terms 1). */
public final class PolicyTextTest {
    private static final Class<IllegalStateException> STATE = IllegalStateException.class;
    private static final Due DUE = new Due();
    private static final String BASE = "type a;role r{a};user u{r};";
    private static final String TWO = "attribute x;type a,x;type b;role r{a b};user u{r};";

    public static void main(String[] args) {
        loads();
        statements();
        names();
        rules();
        conditions();
        loadedAgain();
        counts();
        nevers();
        moves();
        takes();
        DUE.finish();
    }

    /** The ^ stands ahead of the token at fault; without one there is no fault. */
    private static void fault(String marked) {
        int due = marked.indexOf('^');
        String text = marked.replace("^", "");
        GuardHouse house = new GuardHouse();
        Due.put(house, text);
        int got;
        try {
            got = house.load();
        } catch (IllegalStateException thrown) {
            got = GuardHouse.NONE;
        }
        DUE.is(marked, due, got);
    }

    private static void faults(String... texts) {
        for (String text : texts) {
            fault(text);
        }
    }

    private static void loads() {
        GuardHouse house = new GuardHouse();
        DUE.fails("an empty text makes no context 0", STATE, house::load);
        DUE.fails("no policy yet", STATE, () -> house.policy(0));
        DUE.fails("no policy, ahead of a wrong what", STATE, () -> house.policy(7));
        DUE.is("a policy", GuardHouse.NONE, Due.load(house, BASE));
        DUE.is("the text stays", BASE.length(), house.put(0));
        DUE.is("it is loaded again", GuardHouse.NONE, house.load());
        DUE.is("a fault", 0, Due.load(house, "no"));
        DUE.is("the text stays with a fault", 2, house.put(0));
        DUE.is("the policy before stays", 1, house.policy(0));
        DUE.is("its roles, too", 1, house.policy(2));
        String all = "attribute x;attribute y;attribute z;type a,x,y;type b,x;role r{a b};role s{a};user u{r s};"
                + "allow a a:file read;never b a:file read;audit a a:file *;quiet a a:dir *;"
                + "move a b:file a;move b b:dir a;limit file read u1==u2;limit dir * t1==x;limit handle use r1!=r2;";
        DUE.is("all statements", GuardHouse.NONE, Due.load(house, all));
        int[] due = {2, 3, 2, 1, 4, 2, 3};
        for (int i = 0; i < due.length; i++) {
            DUE.is("policy(" + i + ")", due[i], house.policy(i));
        }
        DUE.fails("what below 0", IllegalArgumentException.class, () -> house.policy(-1));
        DUE.fails("what above 6", IllegalArgumentException.class, () -> house.policy(7));
    }

    private static void statements() {
        faults("^x", "^;", "^:", "type^", "type ^;", "type a^", "type a ^b;", "type a;^;", "^self;", "^read;", "^file;",
                "attribute a^,b;", "attribute a;type b,^b;", "attribute a;type b ^{a};", "type a,^c;", "type a,^",
                "attribute a;type b,a ^a;", "attribute a;type b,a,a;", "type ^1a;",
                "type a;role r ^a;", "type a;role r{^};", "type a;role r{a^", "type a;role r{a^,a};", "type a;role r{a a};",
                "type a;role r{^r};", "type a;role r{a}^", "type a;role r{a}^}", "type a;role r{^u};", "role r{^a};",
                "attribute x;type a,x;role r{^x};",
                BASE + "user v{^a};", BASE + "user v{r ^r2};", BASE + "user v{r r};", BASE + "user v{^};", BASE + "user ^{r};",
                BASE + "user v {^u};");
        faults("# nothing", "#;\ntype a; # type b\n#\n", "type a;#\n^x", "type a^=;", "type a; ^!", "type a; ^A", "^$",
                "type\na\n;", "type a;  ", "type a; # x\n", "type a; type # x\n^");
        String blanks = "type a; type b # and no ;   ";
        fault(blanks + "^");
    }

    private static void names() {
        faults("type abcdefghi;", "type a09z_;", "type ^abcdefghij;", "type a_1;", "type ^_a;", "type ^1;", "type a1^-;", "type a^B;",
                "type a;type ^a;", "attribute a;type ^a;", "type a;role ^a{a};", "type a;role r{a};user ^r{r};",
                "type a;role r{a};user ^a{r};", "type a;attribute ^a;", "type a;role r{a};type ^r;",
                "type typ;type types;type ^type;", "type ^abcdefghijk", "^abcdefghij a;");
        for (String word : ("attribute type role user allow never audit quiet move limit self or and not u1 r1 t1 u2 r2 t2 "
                + "file dir process pipe handle read write append create unlink link rename relabel look entry search add "
                + "remove fork become signal trace switch use").split(" ")) {
            fault("type ^" + word + ";");
            fault("type a;allow a ^" + (word.equals("self") ? "u3" : word) + ":file read;");
        }
        for (String name : "u3 r3 t3 u11 files us seek sync crash mkdir none all u r t u0".split(" ")) {
            fault("type " + name + ";");
        }
    }

    private static void rules() {
        faults(TWO + "allow a b:file read;", TWO + "allow x x:file{read write};", TWO + "allow * *:file *;",
                TWO + "allow a self:file *;", TWO + "allow ^self a:file *;", TWO + "allow a a ^file *;",
                TWO + "allow ^r a:file *;", TWO + "allow a ^u:file *;", TWO + "allow a a:^files *;",
                TWO + "allow a a:file ^;", TWO + "allow a a:file {^};", TWO + "allow a a:file {read^;",
                TWO + "allow a a:file {read^, write};", TWO + "allow a a:file {read read};", TWO + "allow a a:file {^*};",
                TWO + "allow a a:file read ^write;", TWO + "allow a^:file read;", TWO + "allow ^;", TWO + "allow a ^c:file *;",
                TWO + "allow ^c a:file *;", TWO + "allow a a:file ^a;", TWO + "allow ^{a} a:file *;", TWO + "allow * ^",
                "allow ^a a:file *;type a;");
        String[] right = {"read write append create unlink link rename relabel look entry",
            "read search add remove create unlink rename relabel look", "fork become signal trace switch",
            "read write create", "use"};
        String all = String.join(" ", right);
        for (int kind = 0; kind < 5; kind++) {
            for (String permission : all.split(" ")) {
                boolean has = (" " + right[kind] + " ").contains(" " + permission + " ");
                fault(TWO + "allow a a:" + PlainRules.CLASSES.get(kind) + (has ? " " : " ^") + permission + ";");
                fault(TWO + "limit " + PlainRules.CLASSES.get(kind) + " {" + (has ? "" : "^") + permission + "}u1==u2;");
            }
        }
        faults(TWO + "move a b:file a;", TWO + "move ^x b:file a;", TWO + "move a ^x:file a;", TWO + "move a b:file ^x;",
                TWO + "move ^* b:file a;", TWO + "move a ^self:file a;", TWO + "move a b:file ^*;", TWO + "move a b:handle b;",
                TWO + "move a b:^read b;", TWO + "move a b ^file b;", TWO + "move a b:file a ^b;", TWO + "move a b:file ^;");
    }

    private static void conditions() {
        String limit = TWO + "limit file read ";
        for (String pair : "u1==u2 u2==u1 r1!=r2 r2==r1 t1==t2 t2!=t1".split(" ")) {
            fault(limit + pair + ";");
        }
        faults(limit + "t1==a;", limit + "t2 != x;", limit + "u1==^a;", limit + "r1==^x;", limit + "t1==^c;", limit + "t1==^r;",
                limit + "t1==^u;", limit + "t1==^t1;", limit + "t1==^u2;", limit + "u1==^u1;", limit + "u1==^r2;",
                limit + "t1 ^a;", limit + "t1^=a;", limit + "t1^:a;", limit + "t1==^*;", limit + "t1==^self;", limit + "^a==t1;",
                limit + "^;", limit + "u1==u2 and^;", limit + "u1==u2 or ^or u1==u2;", limit + "not ^;", limit + "(u1==u2^;",
                limit + "(u1==u2)^);", limit + "u1==u2^);", limit + "(^);", limit + "(u1==u2 ^not u1==u2);",
                limit + "u1==u2 ^u1==u2;", limit + "u1==u2^", limit + "not not u1==u2;", limit + "(not(u1==u2)) and u1==u2;",
                limit + "u1==u2 ^(u1==u2);", limit + "(u1==u2)^(u1==u2);", limit + "u1 ==^=u2;",
                TWO + "limit ^:file read u1==u2;", TWO + "limit file * u1==u2;", TWO + "limit file ^u1==u2;");
        String ten = "((((((((((";
        String close = "))))))))))";
        faults(limit + ten + "u1==u2" + close + ";", limit + ten + "^(u1==u2)" + close + ";", limit + ten + "^not u1==u2" + close,
                limit + "not not not not not not not not not not u1==u2;",
                limit + "not not not not not not not not not not ^not u1==u2;",
                limit + "not(not(not(not(not(u1==u2))))) and not(not(not(not(not(u1==u2)))));",
                limit + "not(not(not(not(not(u1==u2 or ^not u1==u2)))));",
                limit + "not u1==u2 and " + ten + "^(u1==u2)" + close + ";", limit + "not u1==u2 or " + ten + "^not u1==u2;",
                limit + "(not u1==u2) and " + ten + "^(u1==u2)" + close + ";",
                limit + "not(not u1==u2) or " + ten + "u1==u2" + close + ";",
                limit + ten.substring(1) + "not u1==u2 and not u2==u1" + close.substring(1) + ";",
                limit + ten + "u1==u2" + close + " and " + ten + "u1==u2" + close + " or " + ten + "^(");
    }

    /** What a fault left unread has no part in what is loaded behind it. */
    private static void loadedAgain() {
        GuardHouse house = new GuardHouse();
        String limit = TWO + "limit file read ";
        String ten = "((((((((((";
        String deep = limit + ten + "u1==u2))))))))));";
        for (int i = 0; i < 40; i++) {
            DUE.is("a fault within brackets", limit.length() + 10, Due.load(house, limit + ten + ";"));
            DUE.is("a fault behind not", limit.length() + 12, Due.load(house, limit + "not not not ;"));
            DUE.is("ten brackets", GuardHouse.NONE, Due.load(house, deep + "allow a a:file *;limit file write t1==b or t2==b;"));
            DUE.is("what is asked", 1021, house.vector(0, 0, 0));
        }
    }

    private static String times(int n, String text) {
        StringBuilder all = new StringBuilder();
        for (int i = 0; i < n; i++) {
            all.append(text.replace("%", String.valueOf((char) ('a' + i))));
        }
        return all.toString();
    }

    private static void counts() {
        faults(times(24, "type %;"), times(24, "type %;") + "^type z;", times(24, "type %;") + "^type", times(8, "attribute %;"),
                times(8, "attribute %;") + "^attribute z;", "type z;" + times(6, "role %{z};"),
                "type z;" + times(6, "role %{z};") + "^role y{z};", "type z;role y{z};" + times(4, "user %{y};"),
                "type z;role y{z};" + times(4, "user %{y};") + "^user x{y};", BASE + times(15, "allow a a:file *;") + times(15,
                "audit a a:dir *;") + times(15, "quiet a a:file *;") + times(15, "never a a:dir *;"), BASE + times(60,
                "quiet a a:dir *;") + "^never a a:dir *;", BASE + times(60, "quiet a a:dir *;") + "^allow",
                BASE + times(12, "move a a:file a;"), BASE + times(12, "move a a:file a;") + "^move a a:file a;",
                BASE + times(8, "limit dir * u1==u2;"), BASE + times(8, "limit dir * u1==u2;") + "^limit dir * u1==u2;");
    }

    private static void nevers() {
        String head = TWO + "attribute y;type c,x,y;";
        faults(head + "allow a b:file read;^never a b:file read;", head + "^never a b:file read;allow a b:file read;",
                head + "allow a b:file read;never a b:file write;", head + "allow a b:file read;never b a:file read;",
                head + "allow a b:file read;never a b:dir read;", head + "allow a b:file {read write};^never a b:file {look write};",
                head + "allow x b:file read;^never y b:file read;", head + "allow x b:file read;never b b:file read;",
                head + "allow * *:file read;^never c c:file *;", head + "allow a self:file read;^never a a:file read;",
                head + "allow a self:file read;never a b:file read;", head + "allow a self:file read;^never x x:file read;",
                head + "allow * self:file read;^never b self:file read;", head + "allow a self:file read;never b self:file read;",
                head + "allow x b:file read;never * self:file read;", head + "allow a c:file read;never x self:file read;",
                head + "allow a a:file read;^never x self:file read;", head + "audit a b:file read;never a b:file read;",
                head + "quiet a b:file read;never a b:file read;", head + "never a b:file read;never a b:file read;",
                head + "never a a:file read;^never a b:file read;never b b:file read;allow * b:file read;",
                "attribute n;" + BASE + "allow n n:file *;never n n:file *;",
                "attribute n;" + BASE + "allow n n:file *;^never * *:file *;type b,n;");
        faults("allow * *:file *;never * *:file *;", "allow * self:file *;^never * *:file *;type a;");
        fault(head + "move a a:file a;move a a:file b;^never a b:file read;allow a b:file read;");
        fault(head + "never a b:file read;allow a b:file read; ^&");
        fault(head + "^never a b:file read; limit file read u1!=u2;allow a b:file read;");
    }

    private static void moves() {
        faults(TWO + "move a b:file a;^move a b:file b;", TWO + "move a b:file a;move a b:file a;",
                TWO + "move a b:file a;move a b:dir b;", TWO + "move a b:file a;move b b:file b;",
                TWO + "move a b:file a;move a a:file b;", TWO + "move a b:file a;move b b:file a;move a b:file a;^move a b:file b;"
                + "move a b:file a;");
    }

    private static void takes() {
        GuardHouse house = new GuardHouse();
        DUE.fails("no user", STATE, () -> Due.load(house, "type a;role r{a};"));
        DUE.fails("the first user hasn't the first role", STATE,
                () -> Due.load(house, "type a;role r{a};role s{a};user u{s};user v{r};"));
        DUE.fails("the first role hasn't the first type", STATE, () -> Due.load(house, "type a;type b;role r{b};user u{r};"));
        DUE.is("nothing is there", GuardHouse.NONE, house.context(0, 0));
        DUE.fails("none was taken", STATE, () -> house.policy(0));
        String free = "allow * *:file *;allow * *:dir *;allow * *:process *;allow * *:pipe *;allow * *:handle *;";
        String two = "type a;type b;role r{a b};user u{r};";
        String one = "type a;type b;role r{a};user u{r};";
        DUE.is("a policy", GuardHouse.NONE, Due.load(house, two + free));
        DUE.is("process 0", 0, house.context(0, 0));
        DUE.is("no process 1", GuardHouse.NONE, house.context(1, 0));
        DUE.is("the root", 0, house.context(0, 1));
        DUE.is("the root is a directory", 1, house.node(0, 0));
        house.label(0, 1);
        DUE.fails("a node's context", STATE, () -> Due.load(house, one + free));
        DUE.is("the deed isn't sure", 1, house.about(4));
        DUE.is("loading makes it sure", GuardHouse.NONE, Due.load(house, two + free));
        DUE.is("no deed", 0, house.about(4));
        house.label(0, 0);
        house.switchTo(0, 1);
        DUE.fails("a process's context", STATE, () -> Due.load(house, one + free));
        house.onPaths(0, 0, 0, 1);
        house.switchTo(0, 0);
        DUE.fails("a handle's context", STATE, () -> Due.load(house, one + free));
        DUE.is("the policy before stays", 2, house.policy(0));
        house.onHandle(0, 0, 0);
        house.switchTo(0, 1);
        DUE.is("a pipe", 10, house.alone(0, 1));
        house.switchTo(0, 0);
        DUE.fails("a pipe's context", STATE, () -> Due.load(house, one + free));
        house.onHandle(0, 0, 0);
        house.onHandle(0, 0, 1);
        int cached = house.about(3);
        DUE.is("a fault leaves the cache", 0, Due.load(house, "x"));
        DUE.is("as it was", cached, house.about(3));
        DUE.is("now it can be taken", GuardHouse.NONE, Due.load(house, one + free));
        DUE.is("the cache is empty", 0, house.about(3));
        house.alone(0, 2);
        DUE.is("another one", GuardHouse.NONE, house.load());
        DUE.is("makes no process anew", GuardHouse.NONE, house.context(0, 0));
    }
}
