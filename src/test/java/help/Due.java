import java.nio.charset.StandardCharsets;

/** What is due, and how to bring texts and numbers to the tape. */
final class Due {
    private static int wrong = 0;
    private static int asked = 0;

    private Due() {
    }

    static void is(String call, long got, long want) {
        asked++;
        if (got != want) {
            wrong++;
            System.out.println(call + " answered " + got + ", due is " + want);
        }
    }

    static void yes(String call, boolean got) {
        is(call, got ? 1 : 0, 1);
    }

    static void no(String call, boolean got) {
        is(call, got ? 1 : 0, 0);
    }

    /** Ends the test: with exit code 1 if an answer was not as due. */
    static void end() {
        System.out.println(asked + " answers looked at, " + wrong + " not as due");
        if (wrong != 0) {
            System.exit(1);
        }
    }

    static void feed(SlateRing x, int... bytes) {
        for (int from = 0; from < bytes.length; from += 20) {
            int[] words = new int[5];
            for (int i = 0; i < 20; i++) {
                int one = from + i < bytes.length ? bytes[from + i] : 0;
                words[i / 4] = words[i / 4] << 8 | one & 255;
            }
            x.feed(words[0], words[1], words[2], words[3], words[4]);
        }
    }

    static int way(SlateRing x, int b, String text) {
        byte[] bytes = text.getBytes(StandardCharsets.ISO_8859_1);
        int[] all = new int[bytes.length];
        for (int i = 0; i < all.length; i++) {
            all[i] = bytes[i];
        }
        feed(x, all);
        return x.way(b, all.length);
    }

    static int check(SlateRing x, int b, int... numbers) {
        int[] bytes = new int[4 * numbers.length];
        for (int i = 0; i < bytes.length; i++) {
            bytes[i] = numbers[i / 4] >> 8 * (3 - i % 4) & 255;
        }
        feed(x, bytes);
        return x.check(b, numbers.length / 2);
    }

    /** Prices as twos: a, b, a, b. */
    static boolean ladder(SlateRing x, int... prices) {
        feed(x, prices);
        return x.ladder(prices.length / 2);
    }

    /** All 24 prices: 1/2, 2/2, 3/2 and so on. */
    static boolean ladder24(SlateRing x) {
        int[] prices = new int[48];
        for (int i = 0; i < 24; i++) {
            prices[2 * i] = i + 1;
            prices[2 * i + 1] = 2;
        }
        return ladder(x, prices);
    }

    /** Races, and books with nothing in their purses; no ladder. */
    static SlateRing bare(int books, int... horses) {
        SlateRing x = new SlateRing();
        for (int h : horses) {
            x.race(h);
        }
        for (int b = 0; b < books; b++) {
            x.book(0);
        }
        return x;
    }

    /** A ladder 1/2 1/1 2/1 3/1 5/1 10/1, races and books with purses of 100000. */
    static SlateRing ring(int books, int... horses) {
        SlateRing x = bare(0, horses);
        for (int b = 0; b < books; b++) {
            x.book(100000);
        }
        ladder(x, 1, 2, 1, 1, 2, 1, 3, 1, 5, 1, 10, 1);
        return x;
    }

    static void slates(SlateRing x, int b, int race, int... steps) {
        for (int h = 0; h < steps.length; h++) {
            x.slate(b, race, h, steps[h]);
        }
    }
}
