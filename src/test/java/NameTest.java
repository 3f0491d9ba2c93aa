/** Terms, NAME: which longs are names, for each call that takes one. */
public final class NameTest {
    public static void main(String[] args) {
        oneToSevenCharacters();
        noCharacter();
        eightCharacters();
        theLeastAndTheMostCharacterInEachPlace();
        charactersThatAreTooSmallOrTooLarge();
        aCharacterBehindAZero();
        namesThatAreNearlyAlike();
        Check.end();
    }

    private static void isName(String what, long name) {
        LogFs x = Disks.withFile();
        x.make(0, Check.name("d"), true);
        Check.is(what + ": find ahead", x.find(2, name), LogFs.NONE);
        Check.is(what + ": make", x.make(2, name, false), 3);
        Check.is(what + ": find", x.find(2, name), 3);
        Check.yes(what + ": unlink", x.unlink(2, name));
        Check.yes(what + ": link", x.link(2, name, 1));
        Check.is(what + ": find", x.find(2, name), 1);
        Check.is(what + ": make again", x.make(2, name, true), LogFs.NONE);
    }

    private static void isNone(String what, long name) {
        LogFs x = Disks.withFile();
        x.link(0, name & 0xffffffffffffff00L, 1);
        x.make(0, Check.name("gone"), false);
        x.unlink(0, Check.name("gone"));
        x.sync();
        Check.is(what + ": make a file", x.make(0, name, false), LogFs.NONE);
        Check.is(what + ": make a directory", x.make(0, name, true), LogFs.NONE);
        Check.no(what + ": link", x.link(0, name, 1));
        Check.no(what + ": unlink", x.unlink(0, name));
        Check.is(what + ": find", x.find(0, name), LogFs.NONE);
        Check.pending(what + ": nothing changed", x);
    }

    /** "a NAME of 1 to 7 characters"; "its characters are the bytes, the highest first". */
    private static void oneToSevenCharacters() {
        String all = "abcdefg";
        for (int length = 1; length <= 7; length++) {
            isName(length + " characters", Check.name(all.substring(0, length)));
        }
    }

    /** "a NAME of 1 to 7 characters". */
    private static void noCharacter() {
        isNone("no character", 0L);
    }

    /** "a NAME of 1 to 7 characters". */
    private static void eightCharacters() {
        isNone("eight characters", Check.name("abcdefgh"));
        isNone("eight characters", Check.name("~~~~~~~~"));
        isNone("an eighth character that is none", Check.name("abcdefg\u0001"));
    }

    /** "characters (33 .. 126)". */
    private static void theLeastAndTheMostCharacterInEachPlace() {
        for (int place = 0; place < 7; place++) {
            isName("33 in place " + place, with("aaaaaaa", place, 33));
            isName("126 in place " + place, with("aaaaaaa", place, 126));
        }
    }

    /** "characters (33 .. 126)". */
    private static void charactersThatAreTooSmallOrTooLarge() {
        int[] none = {1, 10, 31, 32, 127, 128, 160, 254, 255};
        for (int character : none) {
            for (int place = 0; place < 7; place++) {
                isNone(character + " in place " + place, with("aaaaaaa", place, character));
            }
            isNone(character + " alone", Check.name("" + (char) character));
        }
        isNone("all bytes 255", -1L);
        isNone("the least long", Long.MIN_VALUE);
        isNone("the most long", Long.MAX_VALUE);
    }

    /** "up to the first 0, behind which all are 0." */
    private static void aCharacterBehindAZero() {
        for (int place = 0; place < 7; place++) {
            isNone("a 0 in place " + place, with("aaaaaaa", place, 0) | 'a');
            isNone("a 0 in place " + place + " and the last byte", with("aaaaaaa", place, 0) | 1L);
        }
        for (int place = 0; place < 6; place++) {
            isNone("a 0 in place " + place + " of seven", with("aaaaaaa", place, 0));
        }
        isNone("one bit behind a name", Check.name("a") | 1L);
        isNone("the last byte alone", 'a');
    }

    /** A name is taken only by the same name. */
    private static void namesThatAreNearlyAlike() {
        String[] names = {"a", "b", "A", "aa", "ab", "ba", "aaa", "aaaaaa", "aaaaaaa", "aaaaaab", "baaaaaa", "!", "~"};
        LogFs x = new LogFs();
        for (int i = 0; i < names.length; i++) {
            Check.is("make " + names[i], x.make(0, Check.name(names[i]), false), i + 1);
        }
        for (int i = 0; i < names.length; i++) {
            Check.is("find " + names[i], x.find(0, Check.name(names[i])), i + 1);
        }
        Check.yes("unlink", x.unlink(0, Check.name("aaaaaaa")));
        Check.is("find", x.find(0, Check.name("aaaaaaa")), LogFs.NONE);
        Check.is("find a shorter one", x.find(0, Check.name("aaaaaa")), 8);
        Check.is("find another", x.find(0, Check.name("aaaaaab")), 10);
    }

    private static long with(String text, int place, int character) {
        return Check.name(text.substring(0, place) + (char) character + text.substring(place + 1));
    }
}
