/** What the tests share: looks at answers, and ends with exit code 1 if one was not due. */
final class Due {
    private int wrong;
    private int looked;
    private String promise = "";

    /** Names the promise that the next answers belong to. */
    void promise(String name) {
        promise = name;
    }

    void is(String call, long got, long want) {
        looked++;
        if (got != want) {
            wrong++;
            System.out.println(promise + ": " + call + " answered " + got + ", due is " + want);
        }
    }

    void end() {
        if (wrong != 0) {
            System.out.println(wrong + " of " + looked + " answers are not as due");
            System.exit(1);
        }
        System.out.println(looked + " answers are as due");
    }

    /** Feeds all signs of a text; the last feed()'s answer. */
    static int feeds(SnoozeRow x, String text) {
        int answer = 0;
        for (char sign : text.toCharArray()) {
            answer = x.feed(sign);
        }
        return answer;
    }

    static int street(SnoozeRow x, String text) {
        feeds(x, text);
        return x.street();
    }

    /** A new row with SLEEPERS of these KINDS, each with v as its own number behind it. */
    static SnoozeRow row(int... kindsAndNumbers) {
        SnoozeRow x = new SnoozeRow();
        for (int i = 0; i + 1 < kindsAndNumbers.length; i += 2) {
            x.sleeper(kindsAndNumbers[i], kindsAndNumbers[i + 1]);
        }
        return x;
    }
}
