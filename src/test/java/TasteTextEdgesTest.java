/** Boundary cases of "TASTES are TEXTS", of their FAULT and their WORTH (Terms; promises 4, 5, 11). Each method is one test. */
public final class TasteTextEdgesTest {
    public static void main(String[] args) {
        Edge.runAll(TasteTextEdgesTest.class);
    }

    private static void right(String... texts) {
        Edge.right(1, texts);
    }

    private static void wrong(Object... textsAndFaults) {
        Edge.wrong(1, textsAndFaults);
    }

    private static void early(String... textsAndRests) {
        Edge.early(1, textsAndRests);
    }

    /** What the one sitter (q 9) likes the one seat (w 20, f 5, x 7) in minute 0, ahead of the film. */
    private static void likes(String taste, int want) {
        Check.due("likes by " + taste, Check.room("sw20f5x7;pq9", taste).likes(0, 0), want);
    }

    // ---- clauses

    // Terms: "TASTES (4 at most)": "NONE: .. there are four" (promise 5)
    private static void fourTastes() {
        LostPlaces x = new LostPlaces();
        for (int t = 0; t < 4; t++) {
            Check.feed(x, "y:" + t);
            Check.due("text(1)", x.text(1), t);
        }
        Check.feed(x, "y:4");
        Check.due("text(1), a fifth one", x.text(1), -1);
        Check.due("the tape stays", x.count(4), 3);
        Check.due("tastes", x.count(3), 4);
        Check.due("a fifth one has no fault", x.fault(1), -1);
        Check.addRoom(x, "s;p");
        for (int t = 0; t < 4; t++) {
            Check.due("taste(" + t + ")", x.taste(t), true);
            Check.due("likes by it", x.likes(0, 0), t);
        }
        Check.due("taste(4)", x.taste(4), false);
    }

    // Terms: "CLAUSES with ; between, one at least" and FAULT "the length, if it ends too early"
    private static void oneClauseAtLeast() {
        early("", "y:1", "   ", "y:1");
        right("y:1", "y:1;y:2");
    }

    // Terms: "CLAUSES with ; between"
    private static void semicolonsStandBetweenClauses() {
        wrong(";y:1", 0, "y:1;;y:2", 4, "y:1 y:2", 4, "y:1y:2", 3, "y:1,y:2", 3, "y:1;x:2", 4, "y:1; :2", 5);
        early("y:1;", "y:2", "y:1; ", "y:2");
    }

    // Terms: CLAUSES: "y, : , perhaps CONDITION ?, then SUM": each begins with y
    private static void eachClauseBeginsWithY() {
        for (int sign = 1; sign <= 255; sign++) {
            if (sign != 'y' && sign != ' ') wrong((char) sign + ":1", 0, "y:1;" + (char) sign, 4);
        }
    }

    // Terms: "y, :"
    private static void colonBehindY() {
        early("y", ":1", "y ", ":1");
        wrong("y1", 1, "yy", 1, "y;", 1, "y::1", 2, "y?1", 1);
    }

    // Terms: "perhaps CONDITION ?, then SUM": the SUM is due with a CONDITION and without
    private static void sumIsDue() {
        early("y:", "1", "y:w=1?", "1", "y:w=1? ", "1", "y:1;y:", "1");
        wrong("y:;", 2, "y:?1", 2, "y:w=1?;", 6, "y:w=1??1", 6, "y:w=1?1?1", 7, "y:w=1?w=1", 7);
    }

    // Terms: "CONDITION ?": a CONDITION has its ? behind it
    private static void questionMarkBehindACondition() {
        early("y:w=1", "?1", "y:(w=1)", "?1", "y:!w=1", "?1", "y:w=1&w=2", "?1", "y:w=1|w=2 ", "?1");
        wrong("y:w=1;", 5, "y:(w=1);", 7, "y:w?1", 3, "y:1?1", 3, "y:[w]?1", 5);
    }

    // Terms: "(A CLAUSE that goes on with ! or ( behind its : has a CONDITION.)"
    private static void clauseThatGoesOnWithABracket() {
        wrong("y:(w)", 4, "y:(w)?1", 4, "y:(w+1)*2", 6, "y:(w=1)+1", 7, "y:(w=1)=1", 7, "y:!w;", 4, "y:!w?1", 4, "y:!w+1;", 6);
        early("y:(", "w=1)?1", "y:!", "w=1?1", "y:(w", "=1)?1", "y:!w", "=1?1", "y:(w=1", ")?1", "y:(w=1)", "?1", "y:!w=1", "?1");
        right("y:(w=1)?1", "y:!w=1?1", "y: (w=1)?1", "y: ! w=1?1", "y:[w]", "y:[w]=1?1");
    }

    // ---- conditions

    // Terms: "CONDITION: TRUTHS with | between"
    private static void barsStandBetweenTruths() {
        right("y:w=1|w=2?1", "y:w=1|w=2|w=3?1", "y:(w=1|w=2)?1");
        early("y:w=1|", "w=2?1", "y:w=1|w", "=2?1", "y:w=1|w=", "2?1");
        wrong("y:|w=1?1", 2, "y:w=1||w=2", 6, "y:w=1|?1", 6, "y:(w=1|)?1", 7, "y:w|w=1?1", 3, "y:w=1?1|1", 7);
    }

    // Terms: "TRUTH: UNITS with & between"
    private static void andsStandBetweenUnits() {
        right("y:w=1&w=2?1", "y:w=1&w=2&w=3?1", "y:(w=1&w=2)?1", "y:w=1|w=2&w=3|w=4?1");
        early("y:w=1&", "w=2?1", "y:w=1&w", "=2?1", "y:w=1&w=", "2?1");
        wrong("y:&w=1?1", 2, "y:w=1&&w=2", 6, "y:w=1&?1", 6, "y:(w=1&)?1", 7, "y:w&w=1?1", 3, "y:w=1?1&1", 7, "y:w=1&|w=1", 6);
    }

    // Terms: "UNIT: ! UNIT"
    private static void notStandsAheadOfAUnit() {
        right("y:!w=1?1", "y:!!w=1?1", "y:!(w=1)?1", "y:!(!w=1)?1", "y:w=1&!w=2|!w=3?1", "y:![w]=1?1");
        wrong("y:!?1", 3, "y:!&w=1", 3, "y:w!=1?1", 3, "y:w=!1?1", 4, "y:w=1!?1", 5, "y:1+!w=1", 4, "y:w=1?!1", 6, "y:[!w]", 3);
    }

    // Terms: "UNIT: .. ( CONDITION )": opened and closed
    private static void roundBracketsHoldACondition() {
        right("y:(w=1)?1", "y:((w=1))?1", "y:(w=1)&(w=2)|(w=3)?1");
        early("y:((w=1)", ")?1", "y:(w=1&", "w=1)?1");
        wrong("y:()?1", 3, "y:(w=1?1", 6, "y:(w=1;", 6, "y:(w=1]", 6, "y:w=1)?1", 5, "y:(w=1))?1", 7, "y:1)", 3, "y:w=(1)?1", 4,
                "y:1+(w)", 4, "y:w=1?(w)", 6, "y:[(w)]", 3, "y:(1", 4, "y:(1)", 4);
    }

    // Terms: "UNIT: .. SUM, one of = < >, SUM": one of them, and one alone
    private static void oneSignBetweenTwoSums() {
        right("y:w=1?1", "y:w<1?1", "y:w>1?1", "y:w+1<1-w?1", "y:[w]>[1]?1");
        wrong("y:w=1=1?1", 5, "y:w<=1?1", 4, "y:w<>1?1", 4, "y:w>1<2", 5, "y:=1?1", 2, "y:<1", 2, "y:w=?1", 4, "y:w=;", 4,
                "y:(w=1=1)?1", 6, "y:[w=1]?1", 4);
    }

    // ---- sums

    // Terms: "SUM: TERMS with + or - between"
    private static void plusAndMinusStandBetweenTerms() {
        right("y:1+1", "y:1-1", "y:1+1-1+1");
        early("y:1+", "1", "y:1-", "1", "y:1+1-", "1");
        wrong("y:+1", 2, "y:-1", 2, "y:1++1", 4, "y:1--1", 4, "y:1+-1", 4, "y:1+;", 4, "y:[-1]", 3, "y:w=-1?1", 4);
    }

    // Terms: "TERM: ATOMS with * or / between"
    private static void timesAndOverStandBetweenAtoms() {
        right("y:1*1", "y:1/1", "y:1*1/1*1");
        early("y:1*", "1", "y:1/", "1", "y:1+1/", "1");
        wrong("y:*1", 2, "y:/1", 2, "y:1**1", 4, "y:1*/1", 4, "y:1+*1", 4, "y:1*+1", 4, "y:1*;", 4, "y:1 1", 4, "y:1w", 3, "y:ww", 3,
                "y:w1", 3, "y:2[w]", 3, "y:[w]2", 5, "y:[w][w]", 5);
    }

    // Terms: "ATOM: a number .., a letter (w f x q m p), [ SUM ]": nothing else begins one
    private static void nothingElseIsAnAtom() {
        right("y:w", "y:f", "y:x", "y:q", "y:m", "y:p", "y:0", "y:9", "y:[w]");
        for (int sign = 1; sign <= 255; sign++) {
            if ("wfxqmp[ 0123456789".indexOf(sign) >= 0) continue;
            wrong("y:1+" + (char) sign, 4);
            if (sign != '!' && sign != '(') wrong("y:" + (char) sign, 2);
        }
    }

    // Terms: "TERMS with + or - between", "ATOMS with * or / between", "one of = < >": nothing else stands behind an ATOM
    private static void nothingElseBehindAnAtom() {
        for (int sign = 1; sign <= 255; sign++) {
            if ("+-*/ ".indexOf(sign) >= 0) continue;
            if ("=<>;".indexOf(sign) < 0) wrong("y:w" + (char) sign, 3);
            if (sign != ']') wrong("y:[w" + (char) sign, 4);
            if (sign != ';') wrong("y:w=1?w" + (char) sign, 7);
            if ("&|?".indexOf(sign) < 0) wrong("y:w=w" + (char) sign, 5);
            if ("=<>".indexOf(sign) < 0) wrong("y:(w" + (char) sign, 4, "y:!w" + (char) sign, 4, "y:w=w&w" + (char) sign, 7);
            if ("&|)".indexOf(sign) < 0) wrong("y:(w=w" + (char) sign, 6);
        }
        early("y:w+", "1", "y:w=", "1?1", "y:w;", "y:1", "y:w=1?w;", "y:1", "y:[w+", "1]");
    }

    // Terms: "[ SUM ]": opened and closed
    private static void squareBracketsHoldASum() {
        right("y:[1]", "y:[[1]]", "y:[1+2]*[3-4]", "y:[w]=[1]?[1]");
        early("y:[", "1]", "y:[1", "]", "y:[1+", "1]", "y:[[1]", "]");
        wrong("y:[]", 3, "y:[1", 4, "y:[1;", 4, "y:[1)", 4, "y:1]", 3, "y:[1]]", 5, "y:[1?", 4, "y:[1&1]", 4);
    }

    // Terms: "a number (1 to 4 digits)"
    private static void oneToFourDigits() {
        likes("y:7", 7);
        likes("y:07", 7);
        likes("y:077", 77);
        likes("y:0077", 77);
        likes("y:9999-9000", 999);
        likes("y:0", 0);
        likes("y:0000", 0);
    }

    // Terms: FAULT: "a third digit (whatever stands ahead of it; a fifth one in a TASTE) itself"
    private static void fifthDigit() {
        wrong("y:12345", 6, "y:00000", 6, "y:00001", 6, "y:99999", 6, "y:1+12345;", 8, "y:[12345]", 7, "y:w=12345?1", 8,
                "y:12345=1?1", 6, "y:w=1?12345", 10, "y:123456789", 6);
    }

    // ---- six within one another

    private static String closing(String opened) {
        StringBuilder t = new StringBuilder();
        for (int i = opened.length() - 1; i >= 0; i--) t.append(opened.charAt(i) == '(' ? ")" : "");
        return t.toString();
    }

    // Terms: "At most six of ( [ ! within one another"; FAULT: "a seventh of ( [ ! in a TASTE at it": all ways of six
    private static void sixWithinOneAnother() {
        for (int units = 0; units <= 6; units++) {
            for (int way = 0; way < 1 << units; way++) {
                StringBuilder t = new StringBuilder();
                for (int i = 0; i < units; i++) t.append((way >> i & 1) == 0 ? '!' : '(');
                String open = t.toString();
                String sums = Edge.times("[", 6 - units);
                String sum = sums + "w" + Edge.times("]", 6 - units);
                right("y:" + open + sum + "=1" + closing(open) + "?1", "y:" + open + "w=" + sum + closing(open) + "?1");
                wrong("y:" + open + sums + "[", 8, "y:" + open + "w=" + sums + "[", 10);
                if (units == 6) wrong("y:" + open + "!", 8, "y:" + open + "(", 8);
            }
        }
    }

    // Terms: "At most six of .. [ .. within one another": without a CONDITION, and behind its ?
    private static void sixInASum() {
        right("y:[[[[[[w]]]]]]", "y:w=1?[[[[[[w]]]]]]", "y:1+[[[[[[w]]]]]]*2");
        wrong("y:[[[[[[[w]]]]]]]", 8, "y:w=1?[[[[[[[w", 12, "y:1+[[[[[[[", 10, "y:[[[[[[w]]]]]]+[[[[[[[", 22);
    }

    // Terms: "within one another": what is closed, or stands beside, does not count
    private static void besideDoesNotCount() {
        right("y:[w]+[w]+[w]+[w]+[w]+[w]+[w]+[w]", "y:[[[[[w]+[w]+[w]]]]]", "y:(w=1)&(w=1)&(w=1)&(w=1)&(w=1)&(w=1)&(w=1)?1",
                "y:!w=1&!w=1&!w=1&!w=1&!w=1&!w=1&!w=1?1", "y:!!!!!!w=1&!!!!!!w=1|!!!!!!w=1?[[[[[[w]]]]]]",
                "y:((((((w=1))))))?[[[[[[w]]]]]];y:[[[[[[w]]]]]]", "y:(((w=1)|(w=2))&(((((w=3))))))?1");
        wrong("y:!!!!!!w=1&!!!!!!!", 18, "y:((((((w=1)&w=1&(w=1)&(w=1&(", 28, "y:(((((!w=1&!w=1&!!", 18);
    }

    // Terms: "! UNIT": the ! is over when its UNIT is, the ( when its ) stands
    private static void depthOfASignEndsWithIt() {
        right("y:(!!!!!w=1|!!!!!w=1)?1", "y:!(!!!(w=1))&!(!!!(w=1))?1", "y:(w=[[[[[1]]]]]&w=[[[[[1]]]]])?1");
        wrong("y:(!!!!!w=1|!!!!!!", 17, "y:(w=[[[[[1]]]]]&w=[[[[[[", 24);
    }

    // ---- blanks

    // Terms: "Blanks (32) may stand between all signs of both"
    private static void blanksBetweenAllSigns() {
        String[] signs = "y : ( w = 20 | ! f < 3 ) & x > 1 ? [ w + 2 ] * 3 - q / 2 ; y : m + p".split(" ");
        for (int blanks = 0; blanks <= 3; blanks++) {
            String gap = Edge.times(" ", blanks);
            likes(gap + String.join(gap, signs) + gap, 22 * 3 - 4);
        }
        for (int i = 0; i <= signs.length; i++) {
            StringBuilder one = new StringBuilder();
            for (int k = 0; k < signs.length; k++) one.append(k == i ? " " : "").append(signs[k]);
            right(one + (i == signs.length ? " " : ""));
        }
    }

    // Terms: "Blanks (32) may stand .. not within numbers"
    private static void noBlanksWithinNumbers() {
        wrong("y:12 34", 5, "y:1 2", 4, "y:[1  2]", 6, "y:w=1 2?1", 6);
    }

    // Terms: "Blanks (32)": no other byte is one
    private static void nothingElseIsABlank() {
        for (int sign = 1; sign <= 255; sign++) {
            if (sign != ' ' && sign != ':') wrong("y" + (char) sign + ":w", 1);
        }
        right("y :w");
    }

    // ---- numbers

    // Terms: "Behind each sign numbers are within -1,000,000 .. 1,000,000": behind +
    private static void boundsBehindPlus() {
        likes("y:999*1000+999-9999*100", 99);
        likes("y:999*1000+1000-9999*100", 100);
        likes("y:999*1000+1001-9999*100", 100);
        likes("y:1000*1000+1-9999*100", 100);
        likes("y:1000*1000+1000*1000-9999*100", 100);
        likes("y:0-1000*1000+[0-1]+9999*100+200", 100);
    }

    // Terms: "Behind each sign numbers are within -1,000,000 .. 1,000,000": behind -
    private static void boundsBehindMinus() {
        likes("y:0-999*1000-999+9999*100+200", 101);
        likes("y:0-999*1000-1000+9999*100+200", 100);
        likes("y:0-999*1000-1001+9999*100+200", 100);
        likes("y:0-1000*1000-1000*1000+9999*100+200", 100);
        likes("y:1000*1000-[0-1]-9999*100", 100);
    }

    // Terms: "Behind each sign numbers are within -1,000,000 .. 1,000,000": behind *, however much it would be
    private static void boundsBehindTimes() {
        likes("y:999*1001-9999*100", 99);
        likes("y:1000*1000-9999*100", 100);
        likes("y:1001*1000-9999*100", 100);
        likes("y:9999*9999-9999*100", 100);
        likes("y:9999*9999*9999*9999-9999*100", 100);
        likes("y:[1000*1000]*[1000*1000]-9999*100", 100);
        likes("y:[0-1001]*1000+9999*100+200", 100);
        likes("y:[0-1000]*1000+9999*100+200", 100);
        likes("y:[0-1000*1000]*[1000*1000]+9999*100+200", 100);
        likes("y:[0-1000*1000]*[0-1000*1000]-9999*100", 100);
    }

    // Terms: "Behind each sign": at each sign by itself, not at the end of the SUM alone
    private static void boundsBehindEachSign() {
        likes("y:9999*9999/9999", 100);
        likes("y:9999*9999*0+3", 3);
        likes("y:1000*1000+500-1-9999*100", 99);
        likes("y:0-1000*1000-500+1+9999*100+200", 101);
        likes("y:1000*1000+1=1000*1000?7;y:3", 7);
        likes("y:1000*1000<1000*1000+1?7;y:3", 3);
        likes("y:0-1000*1000>0-1000*1000-1?7;y:3", 3);
    }

    // Terms: "/ cuts towards 0"
    private static void divisionCutsTowardsZero() {
        likes("y:7/2", 3);
        likes("y:1/2", 0);
        likes("y:10+[0-7]/2", 7);
        likes("y:10+7/[0-2]", 7);
        likes("y:10+[0-1]/2", 10);
        likes("y:[0-7]/[0-2]", 3);
        likes("y:[0-8]/[0-2]", 4);
        likes("y:[0-1000*1000]/[0-1]-9999*100", 100);
    }

    // Terms: "/ .. by 0 gives 0"
    private static void divisionByZero() {
        likes("y:7/0", 0);
        likes("y:7/0+3", 3);
        likes("y:0/0+3", 3);
        likes("y:[0-7]/0+3", 3);
        likes("y:7/[w-20]+3", 3);
        likes("y:7/m+3", 3);
        likes("y:w=20/0?1;y:2", 2);
    }

    // Terms: "WORTH of a TASTE: the SUM of the first CLAUSE whose CONDITION holds": of several the first
    private static void firstClauseThatHolds() {
        likes("y:w=20?3;y:w=20?4;y:5", 3);
        likes("y:w=19?3;y:w=20?4;y:5", 4);
        likes("y:w=19?3;y:w=21?4;y:5", 5);
    }

    // Terms: "the first CLAUSE whose CONDITION holds (or has none)": what stands behind one without does not count
    private static void clauseWithoutACondition() {
        likes("y:5;y:w=20?3", 5);
        likes("y:5;y:6", 5);
    }

    // Terms: "WORTH of a TASTE: .., 0 without"
    private static void noClauseHolds() {
        likes("y:w=1?7", 0);
        likes("y:w=1?7;y:w=2?8", 0);
        likes("y:!w=20?7", 0);
    }

    // Terms: "one of = < >": alike is neither below nor above
    private static void alikeIsNeitherBelowNorAbove() {
        likes("y:w=20?1;y:2", 1);
        likes("y:w<20?1;y:2", 2);
        likes("y:w>20?1;y:2", 2);
        likes("y:w<21?1;y:2", 1);
        likes("y:w>19?1;y:2", 1);
        likes("y:w=19?1;y:2", 2);
        likes("y:w=21?1;y:2", 2);
    }

    // Terms: "CONDITION: TRUTHS with | between; TRUTH: UNITS with & between": & binds more, ! its UNIT alone
    private static void whatBindsMore() {
        likes("y:w=20|w=1&w=2?1;y:2", 1);
        likes("y:w=1&w=2|w=20?1;y:2", 1);
        likes("y:(w=20|w=1)&w=2?1;y:2", 2);
        likes("y:!w=1&w=2?1;y:2", 2);
        likes("y:!(w=1&w=2)?1;y:2", 1);
        likes("y:!w=20|w=20?1;y:2", 1);
        likes("y:!!w=20?1;y:2", 1);
        likes("y:1+2*3", 7);
        likes("y:[1+2]*3", 9);
        likes("y:20-5-3", 12);
        likes("y:20/5*3", 12);
        likes("y:9-[5-3]", 7);
    }
}
