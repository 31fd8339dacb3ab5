/** The edges of promises 4 and 5, sentence by sentence: load, with the language of policies, and policy. */
public final class Edges04To05Test {
    private static final Sentences S = new Sentences();
    private static final String BASE = "type a;role r{a};user u{r};";
    private static final String TWO = "attribute x;type a,x;type b;role r{a b};user u{r};";
    private static final String LIMIT = TWO + "limit file read ";
    private static final String TEN = "((((((((((";
    private static final String CLOSE = "))))))))))";
    private static final String[] CLASSES = {"file", "dir", "process", "pipe", "handle"};
    private static final String[] PERMISSIONS = {"read write append create unlink link rename relabel look entry",
            "read search add remove create unlink rename relabel look", "fork become signal trace switch", "read write create",
            "use"};

    public static void main(String[] args) {
        tokens();
        words();
        statements();
        rules();
        conditions();
        counts();
        nesting();
        declarations();
        faults();
        nevers();
        moves();
        load();
        taken();
        policy();
        S.finish();
    }

    private static void tokens() {
        S.promise("Promise 4: load", "Terms 1");
        S.faults("blanks and line ends between them where needed", "type a;type b;", "type\na\n;\n", "  type  a  ;  ",
                "^typea;", "\n\n^typea", "type a ^b;", TWO + "allow a b:file{read}^read;", TWO
                + "allow a b:file read;allow a*:file*;allow*b:dir*;", LIMIT + "t1==t2;");
        S.faults("NAMES, one to nine small letters, digits and _, beginning with a letter (as many signs as there are)",
                "type a;", "type z;", "type a09z_;", "type abcdefghi;", "type ^abcdefghij;", "type a2345678_;",
                "type ^a2345678_0;", "type ^_a;", "type ^0a;", "type ^9;", "type a^A;", "type a^-;", "type a^`;", "type a^[;",
                "type ^A;", "type ^Z;", "type ^`;", "type a^/;", "type a9^<;", "type ^[;", "type ^|;", "type a^|;",
                "type typea;type atype;", "type a_;type a__;type ^a_;",
                "type abcdefghi;type abcdefghj;type bbcdefghi;type ^abcdefghi;");
        S.faults("{ } ( ) : ; , * == !=", "^}", "^{", "^)", "^(", "^:", "^;", "^,", "^*", "^==", "^!=", "type a^+;",
                "type a^.;", "type a^>;", "type a; ^~", "type a; ^|", "type a; ^z", "type a; ^'", "type a; ^&", "type a; ^\"");
        S.faults("comments go from # to the line's end", "#", "# type", "#\n", "# a\n^b", "type#\na#;;\n;#", "type a;#x\n#\n^y",
                "type a#b\n;type ^a;", "type a# # \n^b", "type a # ;^", "##\n#\n^;", "type a;\n#", "^b#\n");
        S.faults("(A = or ! that begins no == or != begins no token.)", "^=", "^!", "type a^=", LIMIT + "t1^=t2;", LIMIT
                + "t1^!t2;", LIMIT + "t1^= =t2;", LIMIT + "t1^! =t2;", LIMIT + "t1==^=t2;", LIMIT + "t1!=^=t2;", LIMIT
                + "t1^=!t2;", LIMIT + "t1^!", LIMIT + "t1^=");
    }

    private static void words() {
        S.promise("Promise 4: load", "Terms 1");
        String sentence = "WORDS are all names that stand below as they are (of statements, tests, classes, permissions, u1 "
                + ".. t2); " + "they name nothing.";
        for (String word : ("attribute type role user allow never audit quiet move limit self or and not u1 r1 t1 u2 r2 t2 "
                + String.join(" ", CLASSES) + " " + String.join(" ", PERMISSIONS)).split(" ")) {
            S.faults(sentence, "type ^" + word + ";", "attribute ^" + word + ";", "type a;role ^" + word + "{a};",
                    "type a;role r{a};user ^" + word + "{r};");
        }
        String near = "attribut typ types rol u3 r3 t3 u0 u u11 t self_ o an nots fil dirs reader use1 sync mkdir all none";
        for (String name : near.split(" ")) {
            S.faults(sentence, "type " + name + ";", "attribute " + name + ";");
        }
    }

    private static void statements() {
        S.promise("Promise 4: load", "Terms 1");
        S.faults("STATEMENTS, each up to its ; :", "", "type a;", "type a^", "type a; ^;", "^;", "type a;attribute b ^type c;",
                "^self;", "^read;", "^file;", "^or;", "^u1;", "^a;");
        S.faults("attribute NAME;", "attribute a;", "attribute ^;", "attribute^", "attribute a^,b;", "attribute a ^{b};",
                "attribute ^*;");
        S.faults("type NAME, perhaps with names of attributes behind it, a comma ahead of each", "type a;",
                "attribute x;type a,x;", "attribute x;attribute y;type a,x,y;", "attribute x;type a,^;",
                "attribute x;type a ^x;", "attribute x;type a,x ^x;", "attribute x;type a,x,^;", "attribute x;type a,^,x;",
                "type a,^a;", "type a;type b,^a;", "type a,^x;", "type a,^*;", "type a,^", "attribute x;type a,x^",
                "attribute x;type a,x,x;", "type ^;", "type^", "type ^==;", "type ^!=;");
        S.faults("role NAME { names of types, one or more }", "type a;role r{a};", "type a;role r{a a};",
                "type a;type b;role r{a b};", "type a;role r{^};", "type a;role r^;", "type a;role ^;", "type a;role r{^;",
                "type a;role ^", "type a;role r ^a;", "type a;role r{a^,a};", "type a;role r{^r};", "type a;role r{^*};",
                "attribute x;type a,x;role r{^x};", "type a;role r{a ^{};", "type a;role r{a}^}", "type a;role r{a^;",
                "type a;role r{a^", "type a;role r{a}^", "type a;role ^{a};", "role r{^a};type a;");
        S.faults("user NAME { names of roles, one or more }", BASE, BASE + "user v{r r};", BASE + "user v{^};", BASE
                + "user v^;", BASE + "user ^;", BASE + "user v{^;", BASE + "user v ^r;", BASE + "user v{^a};", BASE
                + "user v{^u};", BASE + "user v{^v};", BASE + "user v{r^,r};", BASE + "user v{r^", BASE + "user v{r}^", BASE
                + "user ^{r};", BASE + "user v{^*};");
        S.faults("move SOURCE TARGET : CLASS TYPE (SOURCE a type, TARGET a type)", TWO + "move a b:file a;", TWO
                + "move b b:handle b;", TWO + "move ^x b:file a;", TWO + "move a ^x:file a;", TWO + "move a b:file ^x;", TWO
                + "move ^* b:file a;", TWO + "move a ^*:file a;", TWO + "move a ^self:file a;", TWO + "move a b:file ^*;", TWO
                + "move ^self b:file a;", TWO + "move ^r b:file a;", TWO + "move a b:file ^u;", TWO + "move a b ^file a;", TWO
                + "move a b:^read a;", TWO + "move a b:^a a;", TWO + "move a b:file ^;", TWO + "move a b:file a ^a;", TWO
                + "move a ^:file a;", TWO + "move a b:file a^", TWO + "move^", TWO + "move ^;", TWO + "move a ^;", TWO
                + "move a b^;", TWO + "move a b:^;");
        S.faults("limit CLASS PERMISSIONS CONDITION", LIMIT + "u1==u2;", TWO + "limit handle * u1==u2;", TWO
                + "limit dir{read look}u1==u2;", TWO + "limit ^:file read u1==u2;", TWO + "limit ^a file read u1==u2;", TWO
                + "limit file ^u1==u2;", TWO + "limit file{^}u1==u2;", LIMIT + "^;", LIMIT + "^", LIMIT + "u1==u2^", TWO
                + "limit ^read u1==u2;", TWO + "limit^", TWO + "limit ^;", TWO + "limit file ^;", TWO + "limit file{^;");
    }

    private static void rules() {
        S.promise("Promise 4: load", "Terms 1");
        S.faults("A RULE is allow, never, audit or quiet, then SOURCE TARGET : CLASS PERMISSIONS.", TWO
                + "allow a b:file read;", TWO + "never a b:file read;", TWO + "audit a b:file read;", TWO
                + "quiet a b:file read;", TWO + "allow a b ^file read;", TWO + "allow a^:file read;", TWO + "allow a b:^read;",
                TWO + "allow a b:file^;", TWO + "allow a b:^a read;", TWO + "quiet^;", TWO + "allow a ^;", TWO + "allow a b^;",
                TWO + "allow a b:^;", TWO + "allow a b:file{^;", TWO + "audit a b:file read^", TWO + "allow a b:^:file read;");
        S.faults("SOURCE: the name of a type or attribute, or *", TWO + "allow a a:dir *;", TWO + "allow x a:dir *;", TWO
                + "allow * a:dir *;", TWO + "allow ^self a:dir *;", TWO + "allow ^r a:dir *;", TWO + "allow ^u a:dir *;", TWO
                + "allow ^y a:dir *;", TWO + "allow ^{a} a:dir *;", TWO + "allow ^t1 a:dir *;", TWO + "allow a^,b a:dir *;");
        S.faults("TARGET likewise, or self.", TWO + "allow a b:dir *;", TWO + "allow a x:dir *;", TWO + "allow a *:dir *;", TWO
                + "allow a self:dir *;", TWO + "allow * self:dir *;", TWO + "allow a ^r:dir *;", TWO + "allow a ^u:dir *;", TWO
                + "allow a ^y:dir *;", TWO + "allow a ^t2:dir *;", TWO + "allow a self ^self:dir *;");
        S.faults("PERMISSIONS: a name, or { names, one or more }, or *.", TWO + "allow a a:file read;", TWO
                + "allow a a:file{read};", TWO + "allow a a:file{read write};", TWO + "allow a a:file*;", TWO
                + "allow a a:file{^};", TWO + "allow a a:file{^*};", TWO + "allow a a:file read ^write;", TWO
                + "allow a a:file{read^,write};", TWO + "allow a a:file{read^", TWO + "allow a a:file{read^;", TWO
                + "allow a a:file * ^read;", TWO + "allow a a:file ^a;", TWO + "allow a a:file{read ^a};", TWO
                + "allow a a:file ^}");
        String sentence = "CLASSES (0 file, 1 dir, 2 process, 3 pipe, 4 handle) are these five words";
        for (String kind : CLASSES) {
            S.faults(sentence, TWO + "allow a a:" + kind + "*;", TWO + "move a a:" + kind + " a;", TWO + "limit " + kind
                    + "* t1==a;");
        }
        S.faults(sentence, TWO + "allow a a:^files *;", TWO + "allow a a:^use *;", TWO + "limit ^type * t1==a;");
        sentence = "or is a permission that its class hasn't";
        for (int kind = 0; kind < 5; kind++) {
            for (String each : (String.join(" ", PERMISSIONS) + " file self").split(" ")) {
                String mark = (" " + PERMISSIONS[kind] + " ").contains(" " + each + " ") ? "" : "^";
                S.faults(sentence, TWO + "allow a a:" + CLASSES[kind] + " " + mark + each + ";",
                        TWO + "limit " + CLASSES[kind] + "{" + mark + each + "}u1==u2;");
            }
        }
    }

    private static void conditions() {
        S.promise("Promise 4: load", "Terms 1");
        S.faults("CONDITION: CHOICES with or between them", LIMIT + "u1==u2;", LIMIT + "u1==u2 or u1==u2;", LIMIT
                + "u1==u2 or u1==u2 or u1==u2;", LIMIT + "^or u1==u2;", LIMIT + "u1==u2 or^;", LIMIT + "u1==u2 or ^or u1==u2;",
                LIMIT + "u1==u2 ^u1==u2;", LIMIT + "u1==u2 or^");
        S.faults("a choice: TESTS with and between them", LIMIT + "u1==u2 and u1==u2;", LIMIT
                + "u1==u2 and u1==u2 or u1==u2 and u1==u2;", LIMIT + "^and u1==u2;", LIMIT + "u1==u2 and^;", LIMIT
                + "u1==u2 and ^or u1==u2;", LIMIT + "u1==u2 or ^and u1==u2;");
        S.faults("a test: ( CONDITION )", LIMIT + "(u1==u2);", LIMIT + "(u1==u2 or u1==u2)and u1==u2;", LIMIT + "(^);", LIMIT
                + "(u1==u2^;", LIMIT + "(u1==u2^", LIMIT + "u1==u2^);", LIMIT + "(u1==u2)^);", LIMIT + "(u1==u2)^(u1==u2);",
                LIMIT + "(u1==u2 ^(u1==u2));", LIMIT + "(u1==u2 and^);", LIMIT + "u1==u2 ^(u1==u2);", LIMIT + "((u1==u2)^;");
        S.faults("not and a test", LIMIT + "not u1==u2;", LIMIT + "not not u1==u2;", LIMIT + "not(u1==u2)or not u1==u2;", LIMIT
                + "not^;", LIMIT + "u1==u2 ^not u1==u2;", LIMIT + "not ^or u1==u2;", LIMIT + "not^", LIMIT
                + "(not u1==u2)and u1==u2;", LIMIT + "not(^)");
        S.faults("or one of u1 r1 t1 u2 r2 t2, then == or !=, then the other one of the same letter", LIMIT + "u1==u2;", LIMIT
                + "u2==u1;", LIMIT + "r1!=r2;", LIMIT + "r2!=r1;", LIMIT + "t1==t2;", LIMIT + "t2!=t1;", LIMIT + "u1==^u1;",
                LIMIT + "r2==^r2;", LIMIT + "t1==^t1;", LIMIT + "t2!=^t2;", LIMIT + "u1==^r2;", LIMIT + "u1==^t2;", LIMIT
                + "t1==^u2;", LIMIT + "t1!=^r2;", LIMIT + "r1!=^u2;", LIMIT + "u1^;", LIMIT + "u1 ^u2;", LIMIT + "u1^:u2;",
                LIMIT + "u1 ^a u2;", LIMIT + "t1==^==;", LIMIT + "t1==^!=a;", LIMIT + "u1==^;", LIMIT + "u1==^", LIMIT + "u1^",
                LIMIT + "^u3==u2;", LIMIT + "^a==t1;", LIMIT + "^use==t1;", LIMIT + "^file==t1;", LIMIT + "^==t1;", LIMIT
                + "u2==^r1;", LIMIT + "r2==^t1;", LIMIT + "t2==^u1;");
        S.faults("or (behind t1 or t2) the name of a type or attribute", LIMIT + "t1==a;", LIMIT + "t2!=x;", LIMIT + "t2==b;",
                LIMIT + "t1!=x;", LIMIT + "u1==^a;", LIMIT + "u2==^x;", LIMIT + "r1==^a;", LIMIT + "r2!=^x;", LIMIT + "t1==^r;",
                LIMIT + "t2==^u;", LIMIT + "t1==^c;", LIMIT + "t1==^*;", LIMIT + "t1==^self;", LIMIT + "u1==^u;", LIMIT
                + "r1==^r;", LIMIT + "t1==^file;");
    }

    private static void counts() {
        S.promise("Promise 4: load", "Terms 1");
        String sentence = "There are at most 24 types, 8 attributes, 6 roles, 4 users, all together 60 rules, 12 moves, 8 "
                + "limits " + "(a statement too many: its first token)";
        S.faults(sentence, Sentences.times(24, "type %;"), Sentences.times(24, "type %;") + "^type z;", Sentences.times(24,
                "type %;") + "^type", Sentences.times(24, "type %;") + "^type a;", Sentences.times(23, "type %;") + "type ^a;");
        S.faults(sentence, Sentences.times(8, "attribute %;"), Sentences.times(8, "attribute %;") + "^attribute z;",
                Sentences.times(8, "attribute %;") + "^attribute;", Sentences.times(7, "attribute %;") + "attribute ^;");
        S.faults(sentence, "type z;" + Sentences.times(6, "role %{z};"), "type z;" + Sentences.times(6, "role %{z};")
                + "^role y{z};", "type z;" + Sentences.times(6, "role %{z};") + "^role 9", "type z;" + Sentences.times(5,
                "role %{z};") + "role ^9");
        S.faults(sentence, "type z;role y{z};" + Sentences.times(4, "user %{y};"), "type z;role y{z};" + Sentences.times(4,
                "user %{y};") + "^user x{y};", "type z;role y{z};" + Sentences.times(4, "user %{y};") + "^user",
                "type z;role y{z};" + Sentences.times(3, "user %{y};") + "user^");
        String all = BASE + Sentences.times(15, "allow a a:file*;") + Sentences.times(15, "audit a a:dir*;")
                + Sentences.times(15, "quiet a a:dir*;") + Sentences.times(14, "never a a:dir*;");
        S.faults(sentence, all + "never a a:dir*;", all + "quiet a a:dir read;", all + "quiet a a:dir*;^quiet a a:dir*;", all
                + "quiet a a:dir*;^never a a:dir*;", all + "audit a a:dir*;^audit a a:dir*;", all
                + "allow a a:pipe*;^allow a a:file*;", all + "quiet a a:dir*;^allow", all + "quiet a a:dir*;move a a:file a;",
                all + "quiet ^9");
        S.holds(sentence, all + "allow a a:file*;", "policy 4 = 60", "vector 0 0 0 = 1023", "vector 0 0 1 = 0",
                "0 look 0 = DENIED", "about 0 = 0");
        S.holds(sentence, BASE + Sentences.times(8, "limit dir*u1==u2;") + "allow * *:dir*;", "policy 6 = 8",
                "vector 0 0 1 = 511", "vector 0 0 0 = 0");
        S.holds(sentence, BASE + Sentences.times(12, "move a a:file a;"), "policy 5 = 12", "move 0 0 0 = 0",
                "move 0 0 1 = NONE");
        S.faults(sentence, BASE + Sentences.times(12, "move a a:file a;"), BASE + Sentences.times(12, "move a a:file a;")
                + "^move a a:file a;", BASE + Sentences.times(12, "move a a:file a;") + "^move", BASE + Sentences.times(11,
                "move a a:file a;") + "move^");
        S.faults(sentence, BASE + Sentences.times(8, "limit dir*u1==u2;"), BASE + Sentences.times(8, "limit dir*u1==u2;")
                + "^limit dir*u1==u2;", BASE + Sentences.times(8, "limit dir*u1==u2;") + "^limit", BASE + Sentences.times(7,
                "limit dir*u1==u2;") + "limit^");
        String most = Sentences.times(8, "attribute x%;") + Sentences.times(24, "type %,xh;") + Sentences.times(6,
                "role r_%{a x};") + Sentences.times(4, "user u_%{r_a r_f};");
        S.faults(sentence, most, most + "^type", most + "^attribute", most + "^role", most + "^user");
        S.holds(sentence, most + "allow xh xg:file read;allow xh xh:file write;allow x x:file look;", "policy 0 = 24",
                "policy 1 = 8", "policy 2 = 6", "policy 3 = 4", "vector 0 3523 0 = 2", "vector 3523 3523 0 = 258",
                "vector 3523 0 0 = 2", "vector 3500 2500 0 = 2");
    }

    private static void nesting() {
        S.promise("Promise 4: load", "Terms 1");
        String nots = "not ".repeat(10);
        S.faults("at most ten ( and not in one another", LIMIT + TEN + "u1==u2" + CLOSE + ";", LIMIT + TEN + "^(u1==u2)" + CLOSE
                + ";", LIMIT + TEN + "^not u1==u2" + CLOSE + ";", LIMIT + nots + "u1==u2;", LIMIT + nots + "^not u1==u2;", LIMIT
                + nots + "^(u1==u2);", LIMIT + "not(not(not(not(not(u1==u2)))));", LIMIT
                + "not(not(not(not(not(^not u1==u2)))));", LIMIT + "not(not(not(not(not(u1==u2 and ^(u1==u2))))));", LIMIT
                + "not(not(not(not(not(u1==u2 or ^not u1==u2)))));", LIMIT + "not(not(not(not(not(u1==u2)and not u1==u2))));",
                LIMIT + TEN + "u1==u2" + CLOSE + "and " + TEN + "u1==u2" + CLOSE + ";", LIMIT + TEN + "u1==u2" + CLOSE + "or "
                + nots + "u1==u2;", LIMIT + nots + "u1==u2 and " + TEN + "u1==u2" + CLOSE + ";", LIMIT + nots + "u1==u2 or "
                + nots + "^not u1==u2;", LIMIT + "(not u1==u2)and(" + nots.substring(4) + "^not u1==u2);", LIMIT
                + TEN.substring(1) + "u1==u2 and not u1==u2 and(u1==u2)or not u1==u2" + CLOSE.substring(1) + ";", LIMIT
                + TEN.substring(1) + "u1==u2)or(not ^(u1==u2));", LIMIT + "not " + TEN.substring(1) + "u1==u2"
                + CLOSE.substring(1) + ";", LIMIT + "not " + TEN.substring(1) + "^(u1==u2)" + CLOSE.substring(1) + ";", LIMIT
                + TEN + "u1==u2" + CLOSE + ";limit file read " + TEN + "u1==u2" + CLOSE + ";", LIMIT + "u1==u2 and u1==u2 or "
                + TEN + "^(u1==u2)" + CLOSE + ";", LIMIT + "u1==u2 and u1==u2 and " + nots + "^not u1==u2;", LIMIT
                + "u1==u2 or u1==u2 or " + TEN + "^not u1==u2;", LIMIT + "(u1==u2 or u1==u2 and u1==u2)and " + TEN
                + "^(u1==u2);", LIMIT + TEN.substring(1) + "u1==u2 or u1==u2 or u1==u2 and(^not u1==u2)" + CLOSE.substring(1)
                + ";");
        S.holds("at most ten ( and not in one another", TWO, "text " + LIMIT + TEN + ";", "load = 76", "text " + LIMIT + nots
                + ";", "load = 106", "text " + LIMIT + nots + "u1==u2;limit dir read " + TEN + "u1==u2" + CLOSE + ";",
                "load = NONE");
    }

    private static void declarations() {
        S.promise("Promise 4: load", "Terms 1");
        S.faults("A name is declared by a statement ahead, once in all (a role can't be called as a type is)",
                "type a;type ^a;", "attribute a;attribute ^a;", "attribute a;type ^a;", "type a;attribute ^a;",
                "type a;role ^a{a};", "attribute a;type b;role ^a{b};", BASE + "type ^r;", BASE + "attribute ^r;", BASE
                + "role ^r{a};", BASE + "user ^a{r};", BASE + "user ^r{r};", BASE + "user ^u{r};", BASE + "role ^u{a};", BASE
                + "type ^u;", BASE + "attribute ^u;", "type a,^x;attribute x;", "role r{^a};type a;",
                "type a;user u{^r};role r{a};", "allow ^a a:file*;type a;", "type a;allow a ^b:file*;type b;",
                "type a;move a ^b:file a;type b;", "limit file*t1==^a;type a;", "type a;role r{a ^b};type b;");
        S.faults("a list may have a name twice", "type a;role r{a a a};", BASE + "user v{r r r};", BASE
                + "allow a a:file{read read};", "attribute x;type a,x,x;", BASE + "limit file{read read read}u1==u2;");
    }

    private static void faults() {
        S.promise("Promise 4: load", "Terms 1");
        S.faults("The FAULT of a text: the first place, going over it, of a token", "type ^9;type 9;",
                "type a;^x;type a;", "type a;type ^a;x", "type a;role r{^b c};", TWO + "allow ^y z:nothing;");
        S.faults("(or sign that begins none, or a name that is too long)", "^$", "type a; ^@", "type ^0;", "type ^tenletters;",
                "^tenletters a;", TWO + "allow a a:^tenletters;", TWO + "allow a a:file ^tenletters;", TWO
                + "allow a ^tenletters:file*;", "type a ^tenletters;", LIMIT + "t1==^tenletters;", LIMIT + "^tenletters;",
                "type a;role r{a ^tenletters};");
        S.faults("the end is a token, too, whose place is the number of all signs", "type^", "type a^", "type a  ^",
                "type a\n\n^", "type a #;^", "type a #\n^", "type a;role r{^", TWO + "allow a b:file {read ^", "type a; ",
                "type a;#");
    }

    private static void nevers() {
        S.promise("Promise 4: load", "Terms 1");
        String head = TWO + "attribute y;type c,x,y;attribute n;";
        S.faults("If there is none: the first never, by its first token, that an allow breaks", head
                + "allow a b:file read;^never a b:file read;", head + "^never a b:file read;allow a b:file read;", head
                + "allow a b:file read; ^never a b:file*;never a b:file read;", head
                + "never b b:file*;^never a b:file*;allow a b:file read;never a b:file read;", head
                + "allow a b:file read;never a b:file read; ^&", head + "never a b:file read;allow a b:file read^");
        S.faults("if there is none, the first move that has another type", head
                + "move a a:file a;move a a:file b;^never a b:file read;allow a b:file*;");
        S.faults("An attribute MEANS the types that have it; * all types; self the source itself.", head
                + "allow x b:file read;^never c b:file read;", head + "allow x b:file read;never b b:file read;", head
                + "allow n b:file read;never * *:file*;", head + "allow * n:file read;never * *:file*;", head
                + "allow n self:file read;never * *:file*;", head + "allow b c:file read;^never * y:file*;", head
                + "allow * self:file read;^never b b:file*;", head + "allow * self:file read;never b a:file*;",
                "allow * *:file*;never * *:file*;", "attribute x;^never * *:file*;allow x x:file*;type a,x;",
                "^never * *:file*;allow * self:file*;type a;");
        String broken = "A never is BROKEN if an allow of its class (wherever it stands) has a source and a target type, both "
                + "meant by both " + "rules, and a permission, of both";
        S.faults(broken, head + "allow a b:file read;never a b:dir read;", head + "allow a b:file read;never b b:file read;",
                head + "allow a b:file read;never a a:file read;", head + "allow a b:file read;never a b:file write;", head
                + "allow a b:file{read look};^never a b:file{write look};", head + "allow a b:file read;never b a:file read;",
                head + "allow x x:dir read;^never y y:dir*;", head + "allow a x:dir read;^never * c:dir*;", head
                + "allow a x:dir read;never y x:dir*;", head + "audit a b:file read;never a b:file read;", head
                + "quiet a b:file read;never a b:file read;", head + "never a b:file read;never a b:file read;", head
                + "allow a b:file read;never b b:file read;^never a b:file read;", head
                + "^never a b:file read;limit file read u1!=u2;allow a b:file read;", head
                + "^never a b:handle use;allow a b:handle use;", head + "^never a b:file entry;allow a b:file entry;");
        S.faults("(self: source and target are the same type)", head + "allow a self:file read;^never a a:file read;",
                head + "allow a self:file read;never a b:file read;", head + "allow a self:file read;^never x x:file read;",
                head + "allow x self:file read;never a c:file read;", head + "allow a a:file read;^never a self:file read;",
                head + "allow a b:file read;never a self:file read;", head + "allow a c:file read;never x self:file read;",
                head + "allow a x:file read;^never x self:file read;", head + "allow * self:file read;^never b self:file read;",
                head + "allow a self:file read;never b self:file read;", head + "allow b x:file read;never * self:file read;",
                head + "allow x self:file read;^never y self:file*;");
    }

    private static void moves() {
        S.promise("Promise 4: load", "Terms 1");
        S.faults("the first move that has another type than one ahead of it of the same source, target and class, by its "
                + "first token", TWO + "move a b:file a;^move a b:file b;", TWO + "move a b:file a;move a b:file a;", TWO
                + "move a b:file a;move a b:dir b;", TWO + "move a b:file a;move b b:file b;", TWO
                + "move a b:file a;move a a:file b;", TWO
                + "move a b:file a;move a b:file a; ^move a b:file b;move a b:file a;", TWO
                + "move a b:file a;move b a:file a;^move b a:file b;move a b:file b;", TWO
                + "move a b:file a;move b b:file a;move a a:file a;move a b:dir b;^move a b:file b;");
    }

    private static void load() {
        S.promise("Promise 4: load");
        S.holds("Loads the text, which stays: NONE, and it is the policy", BASE, "put 0 = 27", "load = NONE", "put 0 = 27",
                "policy 0 = 1", "put 0x65707974 = 31", "put 0x3b7a20 = 34", "load = NONE", "policy 0 = 2");
        String condition = "(t1==t2 or t1!=a)and(t1==x or t1!=x)and not not(t1==a and t2==a)and(t1==a or t2==b)and(t1!=t2 or "
                + "not t2!=a)and u1==u2";
        S.holds("Loads the text, which stays: NONE, and it is the policy", TWO + "allow * *:file*;limit file read " + condition
                + ";limit file write t1==b;", "vector 0 0 0 = 1021", "160* load = NONE", "vector 0 0 0 = 1021",
                "vector 1 0 0 = 1022");
        S.holds("Loads the text, which stays: NONE, and it is the policy", TWO + "allow a a:file read;limit file read t1==a;",
                "text " + TWO + "allow a a:file read;allow a a:file*;move a a:file b;limit file read t1==a;limit file*t1==b;",
                "load = NONE", "vector 0 0 0 = 0", "load = NONE", "text " + TWO + "allow a a:file read;limit file read t1==a;",
                "load = NONE", "vector 0 0 0 = 1", "move 0 0 0 = NONE", "load = NONE", "vector 0 0 0 = 1", "move 0 0 0 = NONE");
        S.holds("or its fault (the policy before stays).", Sentences.FREE, "0 mkdir 1 = 1", "text type a;role r{a};user u{r};$",
                "! load = 27", "put 0 = 28", "policy 0 = 3", "about 4 = 1", "about 3 = 1", "vector 0 1 0 = 1023",
                "0 mkdir 2 = 2");
        String none = "attribute x;type a;type b;role r{a b};user u{r};allow x *:file*;limit dir*t2==x;allow * *:dir*;";
        S.holds("or its fault (the policy before stays).", none, "text " + TWO + "attribute y;type c,y,x;$", "load = 73",
                "text " + none, "load = NONE", "vector 0 0 0 = 0", "vector 0 1 1 = 0", "text " + TWO, "load = NONE", "text "
                + none, "load = NONE", "load = NONE", "vector 0 0 0 = 0", "vector 0 0 1 = 0");
        S.holds("IllegalStateException if it has no fault, but can't be taken.", "", "load = IllegalState",
                "text type a;role r{a};", "! load = IllegalState", "policy 0 = IllegalState", "text type a;role r{a};;",
                "load = 17", "text " + BASE, "load = NONE", "0 fork = DENIED", "text type a;", "! load = IllegalState",
                "policy 3 = 1", "0 fork = DENIED", "put 0 = 7", "text type a;x", "load = 7");
        S.promise("Promise 4: load", "Behind Terms 6");
        S.holds("A call that throws changes nothing.", Sentences.FREE, "0 mkdir 1 = 1", "0 look 1 = 101", "about 3 = 1",
                "about 2 = 4", "text type a;", "! load = IllegalState", "about 3 = 1", "0 look 1 = 101", "about 2 = 6",
                "about 4 = 1", "crash 0", "0 look 1 = NOT_THERE");
        S.promise("Promise 4: load", "Terms 2");
        S.holds("Loading a policy empties it.", Sentences.FREE, "0 look 0 = 1", "about 3 = 1", "text " + BASE, "load = NONE",
                "about 3 = 0", "0 look 0 = DENIED", "about 2 = 0");
    }

    private static void taken() {
        S.promise("Promise 4: load", "Terms 3");
        String less = "text type a;type b;role r{a};user u{r};";
        String quote = "A policy is TAKEN only if the context 0, 0, 0 and those of all processes, nodes, handles and pipes "
                + "(by their numbers) " + "are valid by it.";
        S.holds(quote, "", "text type a;role r{a};role s{a};user u{s};user v{r};", "load = IllegalState",
                "text type a;type b;role r{b};user u{r};", "load = IllegalState", "text type a;role r{a};",
                "load = IllegalState", "context 0 0 = NONE", "text " + BASE, "load = NONE");
        S.holds(quote, Sentences.FREE, "0 switch 1 = 0", less, "! load = IllegalState", "policy 0 = 3", "0 switch 0 = 0",
                "load = NONE", "policy 0 = 2");
        S.holds(quote, Sentences.FREE, "7* 0 fork", "7 switch 1 = 0", less, "load = IllegalState", "7 leave = 0",
                "load = NONE");
        S.holds(quote, Sentences.FREE, "label 0 1", less, "load = IllegalState", "label 0 0", "load = NONE");
        S.holds(quote, Sentences.FREE, "0 mkdir 1 = 1", "0 relabel 1 1 = 0", less, "load = IllegalState", "0 rmdir 1 = 0",
                "load = NONE");
        S.holds(quote, Sentences.FREE, "0 open 1 8 = 0", "label 1 1", "0 unlink 1 = 0", less, "load = IllegalState",
                "0 close 0 = 0", "load = NONE");
        S.holds(quote, Sentences.FREE, "0 switch 1 = 0", "0 open 0 1 = 0", "0 switch 0 = 0", less, "load = IllegalState",
                "0 close 0 = 0", "load = NONE");
        S.holds(quote, Sentences.FREE, "0 switch 1 = 0", "0 pipe = 10", "0 switch 0 = 0", less, "load = IllegalState",
                "0 close 0 = 0", "load = IllegalState", "0 close 1 = 0", "load = NONE");
        S.holds("and those of all processes, nodes, handles and pipes (by their numbers)", Sentences.FREE, "0 switch 1 = 0",
                "text type z;type y;role q{y z};user v{q};", "load = NONE", "context 0 0 = 1");
        S.holds("The first one makes process 0, with the context 0, 0, 0, and the root with it.", "", "context 0 0 = NONE",
                "text " + Sentences.FREE, "load = NONE", "context 0 0 = 0", "context 1 0 = NONE", "context 0 1 = 0",
                "node 0 0 = 1", "node 0 1 = 0", "node 0 2 = 0", "context 1 1 = NONE", "0 close 0 = NO_HANDLE", "label 0 1",
                "0 mkdir 1 = 1", "0 leave = 0", "load = NONE", "context 0 0 = NONE", "context 0 1 = 1", "node 0 1 = 1");
        S.holds("Loading makes all acts sure (5).", Sentences.FREE, "about 4 = 0", "0 mkdir 1 = 1", "0 mkdir 2 = 2",
                "about 4 = 2", "load = NONE", "about 4 = 0", "crash 1 = IllegalArgument", "0 mkdir 3 = 3", "crash 0",
                "node 0 1 = 2");
    }

    private static void policy() {
        S.promise("Promise 5: policy");
        String all = "attribute x;attribute y;type a,x;type b;type c;role r{a b};role s{a};role t{a};role q{a};user u{r};"
                + "allow a a:file*;never b a:file*;audit a a:dir*;quiet a a:dir*;quiet a a:dir*;move a a:file a;move a a:dir "
                + "a;move b a:dir a;" + "move a a:pipe a;move a a:handle a;move b b:file a;limit file*u1==u2;limit "
                + "dir*u1==u2;limit dir*u1==u2;limit dir*u1==u2;" + "limit pipe*r1==r2;limit pipe*u1==u2;limit handle*u1==u2;";
        S.holds("Of the policy: 0 how many types, 1 attributes, 2 roles, 3 users, 4 rules, 5 moves, 6 limits.", all,
                "policy 0 = 3", "policy 1 = 2", "policy 2 = 4", "policy 3 = 1", "policy 4 = 5", "policy 5 = 6", "policy 6 = 7",
                "text " + BASE, "load = NONE", "policy 0 = 1", "policy 1 = 0", "policy 2 = 1", "policy 3 = 1", "policy 4 = 0",
                "policy 5 = 0", "policy 6 = 0");
        S.holds("IllegalStateException if there is none", "", "policy 0 = IllegalState", "policy 6 = IllegalState", "text x",
                "load = 0", "policy 0 = IllegalState", "text type a;", "load = IllegalState", "policy 0 = IllegalState");
        S.holds("IllegalArgumentException for another what.", BASE, "policy -1 = IllegalArgument", "policy 7 = IllegalArgument",
                "policy 0x7fffffff = IllegalArgument", "policy 0x80000000 = IllegalArgument", "policy 6 = 0", "policy 0 = 1");
        S.promise("Promise 5: policy", "Behind Terms 6");
        S.holds("Of several exceptions of other calls that one goes which the call names first.", "", "policy 7 = IllegalState",
                "policy -1 = IllegalState");
    }
}
