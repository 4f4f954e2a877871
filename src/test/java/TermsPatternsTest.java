import java.util.ArrayList;
import java.util.List;
import java.util.regex.Pattern;

/** Terms: what a word, a joker, a PATTERN and a KEY are, and when a PATTERN MATCHES a KEY, at the edges. */
public final class TermsPatternsTest {
    private static final String TERMS = "Terms (promises 4, 5, 7)";

    public static void main(String[] args) {
        Check check = new Check();
        wordsAndJokers(check);
        noneToEightItems(check);
        noZeroBehindTheFirst(check);
        keysHaveNoJokers(check);
        oneWordForEachOne(check);
        anyNumberForEachMany(check);
        alsoNoneForEachMany(check);
        allShortPatternsAndKeys(check);
        longKeys(check);
        longPatterns(check);
        eightItems(check);
        check.end();
    }

    private static QueueBroker topic(int... patterns) {
        QueueBroker x = new QueueBroker();
        x.exchange(0, 2, true);
        x.queue(0, 12, -1, true);
        for (int pattern : patterns) {
            x.bind(0, 0, pattern);
        }
        return x;
    }

    private static int repeated(int item, int times) {
        int pattern = 0;
        for (int n = 0; n < times; n++) {
            pattern = pattern << 4 | item;
        }
        return pattern;
    }

    /** The pattern with another digit at the place, which is counted from the last digit. */
    private static int with(int pattern, int place, int digit) {
        return pattern & ~(15 << 4 * place) | digit << 4 * place;
    }

    private static String hex(int pattern) {
        return "0x" + Integer.toHexString(pattern);
    }

    private static void fits(Check check, int pattern, int key, boolean due) {
        check.due(hex(pattern) + " for " + hex(key), topic(pattern).publish(0, 0, key, 1, 2), due ? 1 : -4);
    }

    private static void wordsAndJokers(Check check) {
        check.sentence(TERMS, "WORDS are 1 .. 13, JOKERS are 14 (ONE) and 15 (MANY)");
        for (int digit = 1; digit <= 15; digit++) {
            check.due("bind of item " + digit, topic().bind(0, 0, digit), 0);
            check.due("publish with item " + digit, topic().publish(0, 0, digit, 1, 0), digit <= 13 ? 0 : -1);
        }
        fits(check, 1, 1, true);
        fits(check, 13, 13, true);
        fits(check, 13, 12, false);
        fits(check, 14, 13, true);
        fits(check, 14, 0, false);
        fits(check, 14, 0xdd, false);
        fits(check, 15, 0, true);
        fits(check, 15, 0xdd, true);
    }

    private static void noneToEightItems(Check check) {
        check.sentence(TERMS, "its items, none to eight");
        int[] items = {1, 7, 8, 13, 14, 15};
        for (int item : items) {
            for (int length = 0; length <= 8; length++) {
                int pattern = repeated(item, length);
                QueueBroker x = topic();
                check.due("bind " + hex(pattern), x.bind(0, 0, pattern), 0);
                check.due("bind again " + hex(pattern), x.bind(0, 0, pattern), -3);
                check.due("unbind " + hex(pattern), x.unbind(0, 0, pattern), 0);
                check.due("publish " + hex(pattern), x.publish(0, 0, pattern, 1, 0), item <= 13 || length == 0 ? 0 : -1);
            }
        }
    }

    private static void noZeroBehindTheFirst(Check check) {
        check.sentence(TERMS, "whose digits behind the first one that isn't 0 are not 0 either");
        int[] items = {1, 8, 13, 14, 15};
        for (int item : items) {
            for (int length = 2; length <= 8; length++) {
                for (int place = 0; place < length - 1; place++) {
                    refusedPattern(check, with(repeated(item, length), place, 0));
                }
                refusedPattern(check, item << 4 * (length - 1));
            }
        }
        int[] wrong = {0x10, 0x80000000, 0xf0000000, 0x1ffffff0, 0x10fffffe};
        for (int pattern : wrong) {
            Later.unchanged(check, "bind " + hex(pattern), -1, Busy::broker, x -> x.bind(2, 1, pattern));
            Later.unchanged(check, "unbind " + hex(pattern), -1, Busy::broker, x -> x.unbind(2, 1, pattern));
            Later.unchanged(check, "publish " + hex(pattern), -1, Busy::broker, x -> x.publish(0, 1, pattern, 1, 0));
        }
    }

    private static void refusedPattern(Check check, int pattern) {
        QueueBroker x = topic(0xf);
        check.due("bind " + hex(pattern), x.bind(0, 0, pattern), -1);
        check.due("unbind " + hex(pattern), x.unbind(0, 0, pattern), -1);
        check.due("publish " + hex(pattern), x.publish(0, 0, pattern, 1, 0), -1);
        check.due("bindings", x.count(4, 0), 1);
        check.due("copies", x.count(0, 0), 0);
    }

    private static void keysHaveNoJokers(Check check) {
        check.sentence(TERMS, "A KEY is a PATTERN without JOKERS");
        for (int length = 1; length <= 8; length++) {
            for (int place = 0; place < length; place++) {
                int word = repeated(13, length);
                QueueBroker x = topic(0xfff);
                check.due("publish " + hex(with(word, place, 1)), x.publish(0, 0, with(word, place, 1), 1, 0), 1);
                for (int joker = 14; joker <= 15; joker++) {
                    int key = with(word, place, joker);
                    check.due("publish " + hex(key), x.publish(0, 0, key, 1, 0), -1);
                    check.due("bind " + hex(key), x.bind(0, 0, key), 0);
                }
            }
        }
        Later.unchanged(check, "publish 0xe", -1, Busy::broker, x -> x.publish(0, 2, 0xe, 1, 0));
        Later.unchanged(check, "publish 0xf", -1, Busy::broker, x -> x.publish(0, 2, 0xf, 1, 0));
        Later.unchanged(check, "publish 0xf1111111", -1, Busy::broker, x -> x.publish(0, 1, 0xf1111111, 1, 0));
    }

    private static void oneWordForEachOne(Check check) {
        check.sentence(TERMS, "putting one word for each ONE");
        for (int ones = 0; ones <= 8; ones++) {
            for (int words = 0; words <= 8; words++) {
                fits(check, repeated(14, ones), repeated(9, words), ones == words);
            }
        }
        fits(check, 0x1e3, 0x123, true);
        fits(check, 0x1e3, 0x13, false);
        fits(check, 0x1e3, 0x1223, false);
        fits(check, 0xe1, 0x1, false);
        fits(check, 0x1e, 0x1, false);
    }

    private static void anyNumberForEachMany(Check check) {
        check.sentence(TERMS, "any number of words, also none, for each MANY");
        for (int many = 1; many <= 8; many++) {
            for (int words = 0; words <= 8; words++) {
                fits(check, repeated(15, many), repeated(9, words), true);
                fits(check, repeated(15, many) << 4 | (many < 8 ? 9 : 15), repeated(9, words), many == 8 || words > 0);
            }
        }
        for (int words = 0; words <= 8; words++) {
            fits(check, 0xfeeeeeee, repeated(9, words), words >= 7);
            fits(check, 0xeeeeeeef, repeated(9, words), words >= 7);
            fits(check, 0xfffffffe, repeated(9, words), words >= 1);
            fits(check, 0x99f99, repeated(9, words), words >= 4);
        }
    }

    private static void alsoNoneForEachMany(Check check) {
        check.sentence(TERMS, "also none, for each MANY");
        fits(check, 0xf, 0, true);
        fits(check, 0xffffffff, 0, true);
        fits(check, 0x1f2f3f4f, 0x1234, true);
        fits(check, 0xf1f2f3f4, 0x1234, true);
        fits(check, 0xf1f2f3f4, 0x123, false);
        fits(check, 0x1ff2, 0x12, true);
        fits(check, 0xfef, 0x1, true);
        fits(check, 0xfef, 0, false);
    }

    private static void allShortPatternsAndKeys(Check check) {
        check.sentence(TERMS, "A PATTERN MATCHES a KEY if the KEY comes out of it");
        compare(check, allOf(new int[] {1, 2, 14, 15}, 4), allOf(new int[] {1, 2}, 4));
    }

    private static void longKeys(Check check) {
        check.sentence(TERMS, "A PATTERN MATCHES a KEY of up to eight words");
        List<Integer> keys = allOf(new int[] {1, 2}, 8);
        compare(check, allOf(new int[] {1, 2, 14, 15}, 4), keys.subList(keys.size() - 384, keys.size()));
    }

    private static void longPatterns(Check check) {
        check.sentence(TERMS, "A PATTERN of up to eight items MATCHES a KEY");
        List<Integer> all = allOf(new int[] {1, 2, 14, 15}, 8);
        List<Integer> some = new ArrayList<>();
        for (int i = 341; i < all.size(); i += 97) {
            some.add(all.get(i));
        }
        List<Integer> keys = allOf(new int[] {1, 2}, 8);
        compare(check, some, keys.subList(keys.size() - 384, keys.size()));
    }

    /** What a regular expression of the same meaning says is due. */
    private static void compare(Check check, List<Integer> patterns, List<Integer> keys) {
        for (int pattern : patterns) {
            QueueBroker x = topic(pattern);
            Pattern same = Pattern.compile(items(pattern).replace("e", ".").replace("f", ".*"));
            for (int key : keys) {
                boolean due = same.matcher(items(key)).matches();
                check.due(hex(pattern) + " for " + hex(key), x.publish(0, 0, key, 1, 2), due ? 1 : -4);
            }
        }
    }

    private static String items(int pattern) {
        return pattern == 0 ? "" : Integer.toHexString(pattern);
    }

    private static List<Integer> allOf(int[] items, int longest) {
        List<Integer> all = new ArrayList<>();
        all.add(0);
        int from = 0;
        for (int length = 1; length <= longest; length++) {
            int to = all.size();
            for (; from < to; from++) {
                for (int item : items) {
                    all.add(all.get(from) << 4 | item);
                }
            }
        }
        return all;
    }

    private static void eightItems(Check check) {
        check.sentence(TERMS, "A PATTERN MATCHES a KEY, both of eight items");
        int key = 0x12345678;
        fits(check, key, key, true);
        for (int place = 0; place < 8; place++) {
            int shorter = key >>> 4 * (place + 1) << 4 * place | key & (1 << 4 * place) - 1;
            if (place == 7) {
                shorter = 0x2345678;
            }
            fits(check, with(key, place, 9), key, false);
            fits(check, key, with(key, place, 9), false);
            fits(check, key, shorter, false);
            fits(check, with(key, place, 14), key, true);
            fits(check, with(key, place, 14), with(key, place, 13), true);
            fits(check, with(key, place, 14), shorter, false);
            fits(check, with(key, place, 15), key, true);
            fits(check, with(key, place, 15), with(key, place, 13), true);
            fits(check, with(key, place, 15), shorter, true);
        }
        fits(check, 0xdddddddd, 0xdddddddd, true);
        fits(check, 0x8ddddddd, 0xdddddddd, false);
        fits(check, 0xfdddddd8, 0x8, false);
    }
}
