/** The edges of promises 1 to 3, sentence by sentence: a new object, put and end. */
public final class Edges01To03Test {
    private static final Sentences S = new Sentences();

    public static void main(String[] args) {
        newObject();
        put();
        end();
        S.finish();
    }

    private static void newObject() {
        S.promise("Promise 1: A new object");
        S.holds("An empty text; no policy.", "",
                "put 0 = 0", "end 1 = IllegalArgument", "events = NONE", "result -1 = 0", "policy 0 = IllegalState",
                "0 fork = IllegalState", "load = IllegalState");
        S.promise("Promise 1: A new object", "Terms 3");
        S.holds("As long as there is no policy nothing is there.", "",
                "context 0 0 = NONE", "context 7 0 = NONE", "context 0 1 = NONE", "context 31 1 = NONE", "context 0 2 = NONE",
                "context 3 2 = NONE", "node 0 0 = NoSuchElement", "node 31 2 = NoSuchElement", "record 0 0 = IndexOutOfBounds",
                "identifier 0 = NONE", "about 0 = 0", "about 1 = 0", "about 2 = 0", "about 3 = 0", "about 4 = 0", "about 5 = 0",
                "about 6 = 0", "about 7 = 0");
        S.promise("Promise 1: A new object", "What it is");
        S.holds("An object is used for at most 512 calls after it has been made", "type a;role r{a};user u{r};",
                "502* label 0 0", "about 4 = 102");
    }

    private static void put() {
        S.promise("Promise 2: put");
        S.holds("Four more signs, the lowest byte first (0 is left out): how many there are.", "",
                "put 0 = 0", "put 0x65707974 = 4", "load = 4", "put 0x00610020 = 6", "put 0x00003b00 = 7", "put 0x20000000 = 8",
                "put 0x20 = 9", "load = IllegalState", "put 0x65707974 = 13", "put 0x7e7e7e7e = 17", "load = 13");
        S.holds("(0 is left out)", "", "put 0 = 0", "put 0x61 = 1", "put 0x6100 = 2", "put 0x610000 = 3", "put 0x61000000 = 4",
                "put 0x61006100 = 6", "put 0x00610061 = 8", "put 0 = 8");
        S.holds("IllegalArgumentException if a byte is none of those", "", "! put 0x20202009 = IllegalArgument", "put 0x0a = 1",
                "! put 0x2020200b = IllegalArgument", "! put 0x0000001f = IllegalArgument", "put 0x20 = 2", "put 0x7e = 3",
                "put 0x7f = IllegalArgument", "put 0x80 = IllegalArgument", "put 0xa0 = IllegalArgument",
                "put 0xff = IllegalArgument", "put 0x01 = IllegalArgument", "put 0 = 3");
        for (int place = 0; place < 4; place++) {
            String zeros = "00".repeat(place);
            S.holds("if a byte is none of those", "", "put 0x7f" + zeros + " = IllegalArgument", "put 0x1f" + zeros
                    + " = IllegalArgument", "put 0x80" + zeros + " = IllegalArgument", "put 0x0a" + zeros + " = 1", "put 0x20"
                    + zeros + " = 2", "put 0x7e" + zeros + " = 3");
        }
        S.holds("UnsupportedOperationException if there would be more than 1200.", "",
                "299* put 0x20202020", "put 0x0020 = 1197", "! put 0x20202020 = UnsupportedOperation", "put 0x20002020 = 1200",
                "put 0 = 1200", "put 0x20 = UnsupportedOperation", "put 0x20000000 = UnsupportedOperation",
                "put 0x20202020 = UnsupportedOperation", "put 0 = 1200", "end 1199", "put 0x20 = 1200", "end 1196",
                "put 0x20202020 = 1200");
        S.promise("Promise 2: put", "Behind Terms 6");
        S.holds("Of several exceptions of other calls that one goes which the call names first.", "",
                "300* put 0x20202020", "put 0x20202009 = IllegalArgument", "put 0xff202020 = IllegalArgument");
        S.holds("A call that throws changes nothing.", "", "299* put 0x20202020", "put 0x2020 = 1198",
                "put 0x20202020 = UnsupportedOperation", "put 0 = 1198", "load = IllegalState", "end 0",
                "put 0x7f616161 = IllegalArgument", "put 0 = 0", "put 0x3b61 = 2", "put 0x7f202020 = IllegalArgument",
                "put 0 = 2");
        S.promise("Promise 2: put", "Terms 1");
        S.holds("A TEXT has at most 1200 signs, 32 .. 126 and line ends (10).", "", "put 0x65707974", "put 0x3b6120",
                "291* put 0x0a200a20", "put 0x200a20 = 1174", "put 0x656c6f72", "put 0x617b7220", "put 0x75203b7d",
                "put 0x20726573", "put 0x7d727b75", "put 0x2020203b", "put 0x2320 = 1200", "load = NONE", "policy 3 = 1");
    }

    private static void end() {
        S.promise("Promise 3: end");
        S.holds("The text has its first n signs.", "", "put 0x3b3b6261", "end 4", "put 0 = 4", "end 3", "put 0 = 3", "end 0",
                "put 0 = 0", "put 0x65707974", "put 0x7a7a7a20", "end 5", "put 0x723b61 = 8", "load = 7", "end 7",
                "load = IllegalState");
        S.holds("IllegalArgumentException if n is below 0 or above how many there are.", "", "end -1 = IllegalArgument",
                "end 1 = IllegalArgument", "end 0", "put 0x61626364", "! end 5 = IllegalArgument", "! end -1 = IllegalArgument",
                "end 0x80000000 = IllegalArgument", "end 0x7fffffff = IllegalArgument", "end 4", "end 3",
                "end 4 = IllegalArgument", "put 0 = 3");
    }
}
