// Homes to begin a test with.
final class Given {
    static final int BEYOND = -1000001, FULL = -1000002, KIND = -1000003, NONE = -1000004, STATE = -1000005, MISSING = -1000006,
        SIZE = -1000007;

    private Given() {
    }

    static void feed(JudgedDeposits x, String text) {
        for (int i = 0; i < text.length(); i += 4) {
            int n = Math.min(4, text.length() - i);
            int bytes = 0;
            for (int k = 0; k < n; k++) bytes = bytes << 8 | text.charAt(i + k);
            x.feed(bytes, n);
        }
    }

    static int text(JudgedDeposits x, String text) {
        feed(x, text);
        return x.text();
    }

    // A home of which one or more texts tell.
    static JudgedDeposits told(String... texts) {
        JudgedDeposits x = new JudgedDeposits();
        for (String text : texts) {
            if (text(x, text) < 0) throw new IllegalArgumentException(text);
        }
        return x;
    }

    static JudgedDeposits one(int kind, int price) {
        JudgedDeposits x = new JudgedDeposits();
        x.thing(kind, price);
        return x;
    }

    static void row(JudgedDeposits x, int s, int bits, int... numbers) {
        x.sheet(s, bits, numbers.length);
        for (int i = 0; i < numbers.length; i++) x.write(s, i, numbers[i]);
    }

    static void full(JudgedDeposits x) {
        while (x.count(1) < 8) x.thing(0, 0);
    }
}
