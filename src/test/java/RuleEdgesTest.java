/** The edges of the tape and of what a rule's text can be and says: "Terms" 2 and promises 9 to 12. */
public final class RuleEdgesTest extends Asking {
    private static final String[] WORDS = ("right left size osize turn oturn load oload slope oslope sort osort sign osign "
        + "first roads").split(" ");

    public static void main(String[] args) {
        tapes();
        rules();
        ends();
        signs();
        words();
        digits();
        parts();
        lines();
        opens();
        nots();
        places();
        ints();
        comparing();
        joining();
        firstLines();
        asked();
        close();
    }

    /** What a condition says of the carts on roads 0 and 1, which go straight. */
    private static void so(String condition, boolean want) {
        FourPalms x = new FourPalms();
        due("a rule " + condition, told(x, 0, "wait when " + condition + ";"), 1);
        x.cart(0, 0, 2, 0, 0, 0, 0);
        x.cart(0, 1, 3, 0, 0, 0, 0);
        due(condition, x.waits(0, 0, 1), want ? 1 : 0);
    }

    private static String times(int many, String text) {
        StringBuilder s = new StringBuilder();
        for (int i = 0; i < many; i++) {
            s.append(text);
        }
        return s.toString();
    }

    private static void tapes() {
        edge("Twenty bytes come behind the TAPE: NONE, and nothing comes, if there would be more than 400", x -> {
            for (int many = 20; many <= 400; many += 20) {
                due("feed", x.feed(many, 0, 0, 0, 0), many);
            }
            due("feed a 21st time", x.feed(0, 0, 0, 0, 0), NONE);
            due("400 are there", x.end(400), true);
            due("no more", x.end(401), false);
            due("feed behind 400", x.feed(0, 0, 0, 0, 0), NONE);
            due("end(381)", x.end(381), true);
            due("feed behind 381", x.feed(0, 0, 0, 0, 0), NONE);
            due("381 are there yet", x.end(382), false);
            due("end(380)", x.end(380), true);
            due("feed behind 380", x.feed(0, 0, 0, 0, 0), 400);
        });
        edge("nothing comes: the text stays as it was", x -> {
            for (int i = 0; i < 20; i++) {
                x.feed(0x20202020, 0x20202020, 0x20202020, 0x20202020, 0x676f2020);
            }
            due("feed", x.feed(0x3b3b3b3b, 0, 0, 0, 0), NONE);
            due("rule", x.rule(0), NONE);
            due("the second go without a ;", x.fault(1), 36);
        });
        edge("of each number the highest first", x -> {
            due("feed", x.feed(0x676f3b67, 0x6f3b676f, 0x3b676f3b, 0x676f3b67, 0x6f3b676f), 20);
            due("end", x.end(18), true);
            due("rule", x.rule(0), 6);
        });
        edge("of each number the highest first: bytes above 127, too", x -> {
            due("feed", x.feed(0x676f3bff, 0x80000000, 0, 0, 0), 20);
            due("end", x.end(3), true);
            due("rule", x.rule(0), 1);
            x.feed(0x676f3bff, 0, 0, 0, 0);
            x.end(4);
            due("rule", x.rule(0), NONE);
            due("place", x.fault(1), 3);
            x.feed(0x676f3b80, 0, 0, 0, 0);
            x.end(4);
            due("rule", x.rule(0), NONE);
            due("place", x.fault(1), 3);
        });
        edge("end: false, changing nothing, if it has not so many, or n is below 0", x -> {
            due("end(0) of an empty one", x.end(0), true);
            due("end(1) of an empty one", x.end(1), false);
            x.feed(0x676f3b67, 0x6f3b676f, 0x3b676f3b, 0x676f3b67, 0x6f3b676f);
            due("end(20)", x.end(20), true);
            due("end(21)", x.end(21), false);
            due("end(-1)", x.end(-1), false);
            due("end(MIN)", x.end(LEAST), false);
            due("end(MAX)", x.end(MOST), false);
            due("20 yet", taped(x), 20);
            due("end(18)", x.end(18), true);
            due("end(19)", x.end(19), false);
            due("rule", x.rule(0), 6);
            due("end(1)", x.end(1), false);
        });
        edge("The TAPE has its first n bytes alone: what stood behind them isn't of the text", x -> {
            tape(x, "gosling; 5");
            x.end(2);
            due("go, which has no end", x.rule(0), NONE);
            due("place", x.fault(1), 2);
            tape(x, "wait when 1=12345 ;");
            x.end(13);
            due("1, which has no end", x.rule(0), NONE);
            due("place", x.fault(1), 13);
            tape(x, "go;go;?");
            x.end(6);
            due("rule", x.rule(0), 2);
            tape(x, "go; ");
            x.end(0);
            due("none at all", x.rule(0), 0);
        });
        edge("a TAPE of 400 bytes that ends within a token", x -> {
            due("a keyword", told(x, 0, times(398, " ") + "go"), NONE);
            due("place", x.fault(1), 400);
            due("a number", told(x, 0, "wait when 1=" + times(384, "\n") + "1234"), NONE);
            due("place", x.fault(1), 400);
            due("none", told(x, 0, times(398, " ") + "gx"), NONE);
            due("place", x.fault(1), 398);
            due("one letter", told(x, 0, times(399, " ") + "g"), NONE);
            due("place", x.fault(1), 399);
        });
        edge("a TAPE of 400 bytes is read whole", x -> {
            due("400", told(x, 0, "go" + times(397, " ") + ";"), 1);
            due("400 without ;", told(x, 0, "go" + times(398, " ")), NONE);
            due("place", x.fault(1), 400);
            due("399 and a sign", told(x, 0, "go;" + times(396, "\n") + "?"), NONE);
            due("place", x.fault(1), 399);
            due("16 lines on 400 bytes", told(x, 0, times(16, "wait when 1 < 2 or 1=1; ") + times(16, " ")), 16);
            due("one long sum", told(x, 0, "wait when 1" + times(192, "+1") + "=193;"), 1);
            x.cart(0, 0, 2, 0, 0, 0, 0);
            x.cart(0, 1, 3, 0, 0, 0, 0);
            due("which is right", x.waits(0, 0, 1), 1);
        });
    }

    private static void rules() {
        edge("RULES 0 .. 3 are TEXTS: the first and the last one", x -> {
            due("rule 0", told(x, 0, "go;"), 1);
            due("rule 3", told(x, 3, "go;go;"), 2);
            due("look(0)", x.look(0), 3);
            due("rule 0 anew", told(x, 0, "go;go;go;go;"), 4);
            due("look(0)", x.look(0), 6);
        });
        for (int k : new int[] {LEAST, -1, 4, MOST}) {
            edge("NONE: no such one (fault() tells 0; the TAPE is empty, too)", x -> {
                told(x, 3, "go; go;");
                told(x, 3, "go");
                due("fault", x.fault(0), 1);
                tape(x, "wait; ?");
                due("rule(" + k + ")", x.rule(k), NONE);
                due("fault(0)", x.fault(0), 0);
                due("fault(1)", x.fault(1), NONE);
                due("tape", taped(x), 0);
                due("look(0)", x.look(0), 2);
            });
        }
        edge("the TAPE, empty then, is RULE k: of an empty one no lines", x -> {
            told(x, 1, "wait; go;");
            due("rule", x.rule(1), 0);
            due("fault(0)", x.fault(0), 0);
            due("look(0)", x.look(0), 0);
        });
        edge("a FAULT (the RULE stays as it was; the TAPE is empty)", x -> {
            told(x, 0, "wait;");
            x.cart(0, 0, 2, 0, 0, 0, 0);
            x.cart(0, 1, 3, 0, 0, 0, 0);
            due("rule", told(x, 0, "go; go; ?"), NONE);
            due("waits by the one before", x.waits(0, 0, 1), 1);
            due("look(0)", x.look(0), 1);
            due("tape", taped(x), 0);
        });
        edge("a FAULT: nothing of its text is open in the next one", x -> {
            String open = "wait when not (((((((1 + 2 * 3 <";
            due("a text without an end", told(x, 0, open), NONE);
            due("the next one", told(x, 0, "go when 1=1;"), 1);
            due("a text without an end", told(x, 0, open), NONE);
            due("eight are open", told(x, 0, "wait when " + times(8, "(") + "1=1" + times(8, ")") + ";"), 1);
            due("nine lines and a part by 0", told(x, 0, times(9, "go;") + "go when 1/0=1;"), NONE);
            due("sixteen lines", told(x, 0, times(16, "wait;")), 16);
            due("a text without an end", told(x, 0, open), NONE);
            due("no such RULE", told(x, 4, open), NONE);
            due("none", x.rule(0), 0);
        });
        edge("fault: of the latest rule(): 0 without one, NONE for another what", x -> {
            told(x, 0, "go ?");
            due("fault(0)", x.fault(0), 1);
            due("fault(1)", x.fault(1), 3);
            due("fault(2)", x.fault(2), NONE);
            due("fault(-1)", x.fault(-1), NONE);
            due("fault(0), asked again", x.fault(0), 1);
            told(x, 0, "go;");
            due("fault(0)", x.fault(0), 0);
            due("fault(1)", x.fault(1), NONE);
            told(x, 0, "?");
            due("fault(1)", x.fault(1), 0);
        });
    }

    private static void ends() {
        edge("1 what can't stand there (the end: the text's length)", x -> {
            String[] tokens = "wait when not ( right + 2 * 3 / 4 < 5 and left = 1 or 1 > 0 ) ;".split(" ");
            String text = "";
            for (String token : tokens) {
                if (!text.isEmpty()) {
                    fault(text, 1, text.length());
                    text += " ";
                    fault(text, 1, text.length());
                }
                text += token;
            }
            fine(text, 1);
        });
        edge("the end: the text's length, blanks at the end counted", x -> {
            fault("go ", 1, 3);
            fault("go   \n ", 1, 7);
            fault("wait when 1 = 1   ", 1, 18);
            fault("wait when (1=1 \n", 1, 16);
            fine("go; ", 1);
            fine("   \n", 0);
        });
    }

    private static void signs() {
        edge("; + - * / ( ) < = > . Blanks (32, 10) between", x -> {
            for (char sign = 0; sign < 256; sign++) {
                boolean blank = sign == 32 || sign == 10;
                boolean mark = ";+-*/()<=>".indexOf(sign) >= 0;
                boolean letter = sign < 128 && Character.isLetter(sign);
                boolean digit = sign >= '0' && sign <= '9';
                if (blank) {
                    fine("go" + sign + ";", 1);
                    fine(sign + "go;" + sign, 1);
                } else if (sign != ';') {
                    fault("go" + sign + ";", 1, letter ? 0 : 2);
                }
                String condition = "wait when 1 < 2" + sign + ";";
                if (blank || digit) {
                    fine(condition, 1);
                } else if (sign != ';') {
                    fault(condition, 1, mark && "+-*/".indexOf(sign) >= 0 ? 16 : 15);
                }
                if (sign == '(') {
                    fine("wait when (1=1);", 1);
                } else if (!blank && !digit) {
                    fault("wait when " + sign + " 1=1;", 1, 10);
                }
            }
        });
        edge("Blanks between: none within a token, none needed, as many as you like", x -> {
            fault("wa it;", 1, 0);
            fault("g\no;", 1, 0);
            fault("wait when 1 1 = 1;", 1, 12);
            fine("wait when 1=1and 1=1or not(1=1)and 2/1*3+4-5>6;wait;go when 1<2;", 3);
            fine("\n\nwait\nwhen\n1  =  1  and  not  (  1  =  1  )  ;  ", 1);
        });
    }

    private static void words() {
        edge("letters (capitals, too) as many as stand together are KEYWORDS (those told here) or none", x -> {
            for (String word : WORDS) {
                fine("wait when " + word + "=0;", 1);
                fault("wait when " + word + "x=0;", 1, 10);
                fault("wait when o" + word + "Z=0;", 1, 10);
                fault("wait when x" + word.substring(1) + "=0;", 1, 10);
                fault("wait when " + word.substring(0, word.length() - 1) + "=0;", 1, 10);
                fault("wait when " + word.toUpperCase() + "=0;", 1, 10);
                fault("wait when " + Character.toUpperCase(word.charAt(0)) + word.substring(1) + "=0;", 1, 10);
                fault("wait when 1=1;" + word + ";", 1, 14);
            }
            for (String none : new String[] {"oright", "oleft", "ofirst", "oroads", "and", "or", "when", "wait", "go"}) {
                fault("wait when " + none + "=0;", 1, 10);
            }
            fault("waitwhen 1=1;", 1, 0);
            fault("wait whenright=1;", 1, 5);
            fault("wait when 1=1 andnot 1=1;", 1, 14);
            fault("wait when not1=1 and right1=1;", 1, 26);
            fault("when;", 1, 0);
            fault("not 1=1;", 1, 0);
            fault("5;", 1, 0);
        });
    }

    private static void digits() {
        edge("digits as many as stand together NUMBERS of 1 to 4 digits or none", x -> {
            fine("wait when 0=0;", 1);
            fine("wait when 9999=0000;", 1);
            fine("wait when 0001=12;", 1);
            fault("wait when 10000=1;", 1, 10);
            fault("wait when 00000=1;", 1, 10);
            fault("wait when 1=00001;", 1, 12);
            fault("wait when 1=" + times(300, "9") + ";", 1, 12);
            fault("wait when 1=1a;", 1, 13);
            fault("wait when 1=1 2;", 1, 14);
            so("0009 = 9 and 9999 = 9998 + 1", true);
        });
    }

    private static void parts() {
        edge("2 (at the NUMBER) a part by 0", x -> {
            fault("wait when 1/0=1;", 2, 12);
            fault("wait when 1 /\n 00 = 1;", 2, 15);
            fault("wait when 1/000=1;", 2, 12);
            fault("wait when 1/0000=1;", 2, 12);
            fault("wait when 1/00000=1;", 1, 12);
            fault("wait when 1/0", 2, 12);
            fault("wait when 1=2/3/0;", 2, 16);
            fault("wait when 1=2/right;", 1, 14);
            fault("wait when 1=2/(1);", 1, 14);
            fault("wait when 1=2//1;", 1, 14);
            fault("wait when 1=2/;", 1, 14);
            fault("wait when 1=2*/1;", 1, 14);
            fine("wait when 0/1=0*0;", 1);
            fine("wait when 1/9999=1/0001;", 1);
        });
    }

    private static void lines() {
        edge("3 (at its KEYWORD) the 17th line", x -> {
            fine(times(16, "go;"), 16);
            fine(times(16, "wait;") + "  \n", 16);
            fault(times(17, "go;"), 3, 48);
            fault(times(16, "go;") + " \nwait when right = 1;", 3, 50);
            fault(times(16, "go;") + "go", 3, 48);
            fault(times(16, "go;") + "wait ?", 3, 48);
            fault(times(40, "wait;"), 3, 80);
        });
        edge("at one place the least: what begins no line at the 17th one", x -> {
            fault(times(16, "go;") + "goes;", 1, 48);
            fault(times(16, "go;") + ";", 1, 48);
            fault(times(16, "go;") + "when", 1, 48);
            fault(times(16, "go;") + "?", 1, 48);
            fault(times(15, "go;") + "go", 1, 47);
        });
        edge("{(wait | go) [when B] ;}", x -> {
            fault(";", 1, 0);
            fault("go;;", 1, 3);
            fault("go wait;", 1, 3);
            fault("go when", 1, 7);
            fault("go when;", 1, 7);
            fault("go when 1=1 when 1=1;", 1, 12);
            fault("go 1=1;", 1, 3);
            fine("go;wait;", 2);
        });
    }

    private static void opens() {
        edge("3 (at it) the 9th ( or not that is open: of (", x -> {
            fine("wait when " + times(8, "(") + "1=1" + times(8, ")") + ";", 1);
            fault("wait when " + times(9, "(") + "1=1" + times(9, ")") + ";", 3, 18);
            fault("wait when " + times(30, "("), 3, 18);
            fault("wait when " + times(8, "(") + "1=1" + times(7, ")") + ";", 1, 28);
            fault("wait when " + times(8, "(") + "1=1" + times(9, ")") + ";", 1, 29);
            fine("wait when " + times(30, "(1=1)and") + "(1=1);", 1);
            fine("wait when (" + times(30, "(1=1)or") + "(1=1));", 1);
            fine("wait when " + times(8, "(") + "1=1)and(1=1)and(1=1" + times(8, ")") + ";", 1);
            fault("wait when " + times(8, "(") + "1=1)and((1=1", 3, 26);
            fine(times(16, "go when((((1=1))));"), 16);
        });
        edge("3 (at it) the 9th ( or not that is open: of both", x -> {
            fine("wait when " + times(4, "not(") + "1=1" + times(4, ")") + ";", 1);
            fault("wait when " + times(4, "not(") + "not 1=1" + times(4, ")") + ";", 3, 26);
            fault("wait when " + times(4, "not(") + "(1=1" + times(5, ")") + ";", 3, 26);
            fine("wait when " + times(7, "(") + "not 1=1" + times(7, ")") + ";", 1);
            fault("wait when " + times(7, "(") + "not(1=1" + times(8, ")") + ";", 3, 20);
            fault("wait when " + times(7, "(") + "not not 1=1" + times(7, ")") + ";", 3, 21);
        });
        edge("at one place the least: a 9th ( where none can stand", x -> {
            fault("wait when " + times(8, "(") + "1(", 1, 19);
            fault("wait when " + times(8, "(") + "1=(", 1, 20);
            fault("wait when " + times(8, "(") + "1=1(", 1, 21);
            fault("wait when " + times(8, "(") + "1=1 not 1=1", 1, 22);
            fault("wait when " + times(8, "(") + "1=not 1", 1, 20);
        });
    }

    private static void nots() {
        edge("a not is open till its C ends: behind it others may open", x -> {
            fine("wait when " + times(8, "not ") + "1=1;", 1);
            fault("wait when " + times(9, "not ") + "1=1;", 3, 42);
            fine("wait when not 1=1" + times(20, " and not 1=1") + ";", 1);
            fine("wait when not 1=1" + times(20, " or not 1=1") + ";", 1);
            fine("wait when " + times(8, "not ") + "1=1 and " + times(8, "not ") + "1=1 or " + times(8, "(") + "1=1"
                + times(8, ")") + ";", 1);
            fine("wait when not(1=1)and " + times(8, "(") + "1=1" + times(8, ")") + ";", 1);
            fine("wait when (not(1=1)and " + times(7, "not ") + "1=1);", 1);
            fault("wait when (not(1=1)and " + times(8, "not ") + "1=1);", 3, 51);
            fine("go when " + times(8, "not ") + "1=1;go when " + times(8, "not ") + "1=1;", 2);
        });
        edge("a not is open till its C ends: within it, it counts", x -> {
            fault("wait when not " + times(8, "(") + "1=1", 3, 21);
            fine("wait when not " + times(7, "(") + "1=1" + times(7, ")") + ";", 1);
            fault("wait when not(1=1 and " + times(7, "not ") + "1=1);", 3, 46);
            fine("wait when not(1=1 and " + times(6, "not ") + "1=1);", 1);
        });
        edge("C = E (< | = | >) E | not C | ( B )", x -> {
            fault("wait when not;", 1, 13);
            fault("wait when not and 1=1;", 1, 14);
            fault("wait when ();", 1, 11);
            fault("wait when (1=1)=1;", 1, 15);
            fault("wait when (1)=1;", 1, 12);
            fault("wait when (1+1)*2=4;", 1, 14);
            fault("wait when (1=1)+1=2;", 1, 15);
            fault("wait when (1=1)/1=1;", 1, 15);
            fault("wait when (1<2)<2;", 1, 15);
            fault("wait when (1=1) 1=1;", 1, 16);
            fault("wait when (1=1)right=1;", 1, 15);
            fault("wait when (1=1)(1=1);", 1, 15);
            fault("wait when (1=1)not 1=1;", 1, 15);
            fault("wait when 1=1=1;", 1, 13);
            fault("wait when 1<=2;", 1, 12);
            fault("wait when =1;", 1, 10);
            fault("wait when 1 and 1=1;", 1, 12);
            fault("wait when 1;", 1, 11);
            fault("wait when not 1;", 1, 15);
            fault("wait when -1<0;", 1, 10);
            fault("wait when 1+-1=0;", 1, 12);
            fault("wait when 1=1 or or 1=1;", 1, 17);
            fault("wait when or 1=1;", 1, 10);
            fault("wait when (1=1 and);", 1, 18);
            fault("wait when (1=1;", 1, 14);
            fault("wait when 1=1);", 1, 13);
        });
    }

    private static void places() {
        edge("FAULTS, the first by its place", x -> {
            fault("go ? wait when 1/0=1;", 1, 3);
            fault("wait when 1/0=1 ?", 2, 12);
            fault("wait when " + times(9, "(") + " ?", 3, 18);
            fault("wait when 1/0=1 and " + times(9, "("), 2, 12);
            fault("wait when " + times(9, "(") + "1/0=1", 3, 18);
            fault(times(16, "go;") + "go when 1/0=1 ?", 3, 48);
            fault(times(15, "go;") + "go when 1/0=1;go;", 2, 55);
            fault("12345 go", 1, 0);
            fault("x y", 1, 0);
        });
        edge("at one place the least: a 0 where no NUMBER can stand isn't parted by", x -> {
            fault("wait when 1 0 = 1;", 1, 12);
            fault("wait when 1/2 0=1;", 1, 14);
            fault("wait when 1/ 00000", 1, 13);
        });
    }

    private static void ints() {
        String least = "2048*1024*1024";
        String most = "2048*1024*1024-1";
        edge("Ints, which wrap", x -> {
            so(least + "<0", true);
            so(most + ">0", true);
            so("2048*1024*512+2048*1024*511+2048*1023+2047>0", true);
            so("2048*1024*512+2048*1024*511+2048*1023+2048=" + least, true);
            so("0-2048*1024*1023-2048*1024-1>0", true);
            so("0-2048*1024*1023-2048*1024=" + least, true);
            so("0-" + least + "=" + least, true);
            so("2048*1024*1024*2=0", true);
            so("9999*9999*9999=0-1027*1000*1000-349*1000-969", true);
            so("9999*9999<9999*9999*9999", false);
            so("0-1<0", true);
        });
        edge("/ goes towards 0", x -> {
            so("7/2=3", true);
            so("9999/9999=1 and 9998/9999=0", true);
            so("2048*1024*1024/1000=0-2147*1000-483", true);
            so("2048*1024*1024/1=2048*1024*1024", true);
            so("2048*1024*1024/4096/4096=0-128", true);
            so("2048*1024*1024/4096/4097=0-127", true);
            so("2048*1024*1024/9999/9999/22=0", true);
        });
        edge("T = U {* U | / NUMBER}, E = T {(+ | -) T}: from the left", x -> {
            so("7/2*2=6", true);
            so("2*7/2=7", true);
            so("100/10/5=2", true);
            so("9-5-3=1", true);
            so("9-5+3=7", true);
            so("1+2*3=7", true);
            so("2*3+1=7", true);
            so("9-2*3=3", true);
            so("1+9/2=5", true);
        });
    }

    private static void comparing() {
        edge("E (< | = | >) E: of equal ones neither is less", x -> {
            so("5<5", false);
            so("5>5", false);
            so("5=5", true);
            so("4<5", true);
            so("5>4", true);
            so("4=5", false);
            so("4>5", false);
            so("5<4", false);
        });
        edge("E (< | = | >) E: as ints, without a wrap", x -> {
            so("2048*1024*1024<2048*1024*1024-1", true);
            so("2048*1024*1024-1>2048*1024*1024", true);
            so("2048*1024*1024>2048*1024*1024-1", false);
            so("0-1<1", true);
            so("1>0-1", true);
        });
    }

    private static void joining() {
        String[][] ways = {{"1=0", "1=1"}, {"2<1", "1<2"}, {"1>2", "2>1"}};
        edge("B = A {or A}. A = C {and C}", x -> {
            for (int i = 0; i < 24; i++) {
                String[] sides = ways[i / 8];
                boolean a = (i & 1) != 0;
                boolean b = (i & 2) != 0;
                boolean c = (i & 4) != 0;
                String p = sides[i & 1];
                String q = sides[i >> 1 & 1];
                String r = sides[i >> 2 & 1];
                so(p + " or " + q + " and " + r, a || b && c);
                so(p + " and " + q + " or " + r, a && b || c);
                so("(" + p + " or " + q + ")and " + r, (a || b) && c);
                so("not " + p + " and " + q + " or " + r, !a && b || c);
                so("not " + p + " or " + q + " and " + r, !a || b && c);
                so("not(" + p + " or " + q + ")or " + r, !(a || b) || c);
                so("not(" + p + " and " + q + ")and not " + r, !(a && b) && !c);
                so("not not " + p + " and not not not " + q, a && !b);
            }
        });
    }

    private static void firstLines() {
        edge("the first line whose B is so (or that has none) is wait: if none is, it doesn't wait", x -> {
            x.cart(0, 0, 2, 0, 0, 0, 0);
            x.cart(0, 1, 3, 0, 0, 0, 0);
            String[] texts = {"", "wait when 1=0;", "wait;", "go;", "go;wait;", "wait;go;", "go when 1=0;wait;",
                "wait when 1=0;go;wait;", "go when 1=1;wait;", "wait when 1=1;go;", "wait when 1=0;wait when 1=1;go;"};
            int[] waits = {0, 0, 1, 0, 0, 1, 1, 0, 0, 1, 1};
            for (int i = 0; i < texts.length; i++) {
                told(x, 0, texts[i]);
                due("by " + texts[i], x.waits(0, 0, 1), waits[i]);
            }
        });
        edge("the 16th line is the last one, and tells", x -> {
            x.cart(0, 0, 2, 0, 0, 0, 0);
            x.cart(0, 1, 3, 0, 0, 0, 0);
            told(x, 0, times(15, "go when 1=0;") + "wait;");
            due("waits", x.waits(0, 0, 1), 1);
            told(x, 0, times(15, "wait when 1=0;") + "go;");
            due("waits", x.waits(0, 0, 1), 0);
            told(x, 0, times(15, "go when 1=0;") + "wait when right=1;");
            due("waits", x.waits(0, 0, 1), 1);
            due("waits", x.waits(0, 1, 0), 0);
        });
    }

    /** Asked of the cart on road 0 about that on road 1: what each word is. */
    private static void asked() {
        edge("Asked are right, left ... of x and its ROAD, osize .. osign of y and its ROAD, first, roads (n)", x -> {
            for (int n = 3; n < 7; n++) {
                x.crossing(0, n);
                for (int what = 0; what < 3; what++) {
                    x.road(0, 0, what, 1);
                    x.road(0, 1, what, what == 1 ? 0 : 2);
                }
                x.cart(0, 0, 2, 1, 9, 50, 0);
                x.cart(0, 1, 2, 3, 8, 49, 0);
                int turn = n == 3 ? 2 : 0;
                int[] is = {1, 0, 1, 2, turn, 1, 9, 8, 1, 0, 1, 3, 1, 2, 1, n};
                for (int i = 0; i < WORDS.length; i++) {
                    told(x, 0, "wait when " + WORDS[i] + "=" + is[i] + ";");
                    due("of " + n + " roads " + WORDS[i] + " = " + is[i], x.waits(0, 0, 1), 1);
                }
            }
        });
        edge("right, left (1, if y's ROAD is the next one; else 0)", x -> {
            x.cart(0, 0, 1, 0, 0, 0, 0);
            x.cart(0, 2, 1, 0, 0, 0, 0);
            told(x, 0, "wait when right = 0 and left = 0;");
            due("0 of 2", x.waits(0, 0, 2), 1);
            due("2 of 0", x.waits(0, 2, 0), 1);
            told(x, 0, "wait when left = 1 and right = 0;");
            x.cart(0, 3, 1, 0, 0, 0, 0);
            due("0 of 3", x.waits(0, 0, 3), 1);
            due("3 of 2", x.waits(0, 3, 2), 1);
            due("2 of 3", x.waits(0, 2, 3), 0);
        });
        edge("first (1, if y's RANK is less): else 0", x -> {
            x.cart(0, 0, 2, 0, 0, 7, 0);
            x.cart(0, 1, 3, 0, 0, 7, 0);
            told(x, 0, "wait when first = 0;");
            due("alike", x.waits(0, 0, 1), 1);
            due("alike", x.waits(0, 1, 0), 1);
            x.cart(0, 1, 3, 0, 0, 6, 0);
            due("y's is less", x.waits(0, 0, 1), 0);
            due("y's is more", x.waits(0, 1, 0), 1);
        });
    }
}
