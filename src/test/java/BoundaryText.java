/** Boundaries of the TAPE and of the language: promises 2 and 3. */
final class BoundaryText extends Sentences {
    private static final String SEVEN = "let a 0;let b 0;let c 0;let d 0;let e 0;let f 0;let g 0;";

    BoundaryText() {
        tape();
        tokens();
        steps();
        names();
        expressions();
        textFaults();
        workFaults();
        ends();
    }

    private void tape() {
        say("tape full", "The TAPE has at most 1,000 signs", () -> {
            GluedPaper paper = new GluedPaper();
            is("999", put(paper, times(999, " ")), 999);
            is("the 1,000th", put(paper, "1"), 1000);
            is("no 1,001st", put(paper, "2"), 1000);
            is("count 6", paper.count(6), 1000);
            is("the last that was taken", paper.figure(), 1 + 16 * 999);
            is("one call of which a part is beyond", put(paper, times(983, " ") + "cell 0 0;cell 1 0;"), 1000);
            is("it is cut there", paper.figure(), 1 + 16 * 1000);
            is("full to the brim", put(paper, times(991, " ") + "cell 7 3;"), 1000);
            is("all of it is read", paper.figure(), 0);
            is("squares", squares(paper), "7,3");
        });
        say("tape signs", "signs, 10 and 32 .. 126", () -> {
            GluedPaper paper = new GluedPaper();
            int due = 0;
            for (int sign = 0; sign < 256; sign++) {
                due += sign == 10 || sign >= 32 && sign <= 126 ? 1 : 0;
                is("signs behind " + sign, paper.feed((long) sign << 56, 0, 0), due);
            }
        });
        say("tape taken", "what reads it takes it: it is empty then", () -> {
            GluedPaper paper = new GluedPaper();
            is("of nothing", paper.figure(), 8);
            is("a right text", read(paper, "cell 1 1;"), 0);
            is("empty", paper.count(6), 0);
            is("a wrong text", read(paper, "cell 1 1"), 1 + 16 * 8);
            is("empty", paper.count(6), 0);
            is("wrong when it is worked", read(paper, "cell 16 1;"), 4);
            is("empty", paper.count(6), 0);
            is("wrong at the end", read(paper, "cell 1 1;cell 3 3;"), 9 + 16 * 18);
            is("empty", paper.count(6), 0);
            is("from place 0 on again", put(paper, ";"), 1);
            is("from place 0 on again", paper.figure(), 1);
        });
        say("feed order", "Up to 24 signs come behind the TAPE: the bytes of a, b, c, of each the highest first", () -> {
            GluedPaper paper = new GluedPaper();
            is("a, then b, then c", paper.feed(Calls.packed("let a 1;", 0), Calls.packed("let b 3;", 0),
                Calls.packed("cell a b", 0)), 24);
            is("behind", paper.feed(0x3b00000000000000L, 0, 0), 25);
            is("figure", paper.figure(), 0);
            is("squares", squares(paper), "1,3");
            paper.feed(0x0000000000000063L, 0x65006c006c002000L, 0x3100200000000030L);
            is("bytes that are none between", paper.feed(0, 0, 0x3bL), 9);
            is("read as one text", paper.figure(), 0);
        });
        say("feed left out", "others than 10 and 32 .. 126, and what is beyond 1,000, are left out: how many there are", () -> {
            GluedPaper paper = new GluedPaper();
            is("nothing at all", paper.feed(0, 0, 0), 0);
            is("no sign among them", paper.feed(-1L, 0x0001090b1f7f80ffL, 0x8aa0e1f1fa898c8dL), 0);
            is("they leave no gap", paper.feed(0x63ff65006c0b6cffL, 0x2000300920003000L, 0x3b7f7f7f7f7f7f7fL), 9);
            is("they leave no gap", paper.figure(), 0);
            is("995", put(paper, times(995, " ")), 995);
            is("five of 24", paper.feed(0x7effffffffffffffL, 0x7e7e7e7e7e7e7e7eL, 0x7e7e7e7e7e7e7e7eL), 1000);
            is("none any more", paper.feed(0x7e7e7e7e7e7e7e7eL, 0, 0), 1000);
            is("the first of them stands", paper.figure(), 1 + 16 * 995);
        });
    }

    private void tokens() {
        say("token long", "TOKENS, each as long as can be", () -> {
            fault("^cellcell 0 0;", 1);
            fault("^cella 0;", 1);
            good("cell 12 3;", "12,3");
            good("let ab 1;let a 2;cell ab a;", "1,2");
            fault("let a 1;let b 1;cell ^ab 0;", 2);
            fault("cell 12^;", 1);
        });
        say("token blanks", "blanks (10, 32) between where one likes", () -> {
            good("cell(1)2;cell 1(3);", "1,2 1,3");
            good("cell 1 2;", "1,2");
            good("\n \ncell\n1\n\n2\n;\n", "1,2");
            good("   cell   1   +   2   (   4   -   1   )   ;   ", "3,3");
            good("let a 1;each b a a+1cell b a;", "1,1 2,1");
            fault("^ce ll 0 0;", 1);
            fault("let a ^b1;", 2);
        });
        say("word letters", "WORDS (letters a .. z", () -> {
            for (char sign = 33; sign < 127; sign++) {
                String text = "let " + sign + " 1;cell " + sign + " 0;";
                is(text, squares(text), sign >= 'a' && sign <= 'z' ? "1,0" : "fault 1 at 4");
            }
            fault("let a^A 1;", 1);
            fault("let a^_b 1;", 1);
        });
        say("word length", "letters a .. z, 8 at most", () -> {
            good("let abcdefg 1;cell abcdefg 0;", "1,0");
            good("let abcdefgh 1;cell abcdefgh 0;", "1,0");
            fault("let ^abcdefghi 1;", 1);
            fault("let a 1;cell ^aaaaaaaaa 0;", 1);
            fault("let aaaaaaaa 1;cell ^aaaaaaaaa 0;", 1);
            fault("let aaaaaaaa 1;cell ^aaaaaaab 0;", 2);
            good("let baaaaaaa 1;let caaaaaaa 2;cell baaaaaaa caaaaaaa;", "1,2");
        });
        say("number length", "NUMBERS (1 to 4 digits", () -> {
            good("cell 5 0;", "5,0");
            good("cell 05 0;", "5,0");
            good("cell 005 0;", "5,0");
            good("cell 0005 0;", "5,0");
            fault("cell ^00005 0;", 1);
            fault("cell 0 ^123456789;", 1);
            good("cell 9999-9990 1000-995;", "9,5");
            for (char sign = 33; sign < 127; sign++) {
                String text = "cell " + sign + "0-" + sign + "0 0;";
                boolean digit = sign >= '0' && sign <= '9';
                if (digit) {
                    is(text, squares(text), "0,0");
                } else {
                    is(text, squares(text).startsWith("fault") ? 1 : 0, 1);
                }
            }
        });
        say("number then letter", "a letter may stand right behind)", () -> {
            good("let a 1;cell 2a;", "2,1");
            good("each k 0 1cell k 0;", "0,0 1,0");
            good("let a 1;cell 0002a;", "2,1");
            fault("cell 0 0^a;", 1);
            good("let a2;cell a3;", "2,3");
        });
        say("token signs", "the signs ( ) < = + - * ;", () -> {
            good("cell(1+2)*(3-2)0;", "3,0");
            fault("cell 0 0^<0;", 1);
            fault("cell 0 0^=0;", 1);
            fault("^<", 1);
            fault("let a^=1;", 1);
            fault("each k 0 1 ^< 1;", 1);
        });
        say("token none", "All else (a longer WORD or NUMBER, too, at its first sign) is none", () -> {
            for (char sign = 33; sign < 127; sign++) {
                boolean letter = sign >= 'a' && sign <= 'z';
                boolean digit = sign >= '0' && sign <= '9';
                if (!letter && !digit && "()<=+-*;".indexOf(sign) < 0) {
                    fault("cell 0 0^" + sign + ";", 1, 8, sign);
                }
            }
            fault("cell 0 0;  ^abcdefghijkl", 1);
            fault("cell 1+^12345 0;", 1);
            fault("^123456", 1);
            fault("^cell00000 0;", 1, 4, ' ');
        });
    }

    /** The place is told beside, for texts with the sign ^ of their own. */
    private void fault(String text, int kind, int place, char sign) {
        String bare = text.replaceFirst("\\^", "");
        is("the fault of " + bare + " at " + sign, read(new GluedPaper(), bare), kind + 16L * place);
    }

    private void steps() {
        say("any number", "FIGURE: any number of", () -> {
            fault("^", 8);
            good("cell 0 0;", "0,0");
            good(times(111, "cell 0 0;"), "0,0");
            fault(times(125, "let a 1;") + "^", 8);
            good(times(123, "let a 1;") + "cell 4 2;", "4,2");
        });
        say("cell bounds", "cell: x, y, both 0 to 15: a CELL is there", () -> {
            for (int at = -2; at < 19; at++) {
                String number = at < 0 ? "0-" + -at : "" + at;
                boolean inside = at >= 0 && at <= 15;
                is("x " + at, squares("cell " + number + " 3;"), inside ? at + ",3" : "fault 4 at 0");
                is("y " + at, squares("cell 3 " + number + ";"), inside ? "3," + at : "fault 4 at 0");
            }
            good("cell 1 1;cell 1 1;", "1,1");
        });
        say("rect cells", "rect: x, y, how wide, how high: all these CELLS are there", () -> {
            good("rect 3 4 2 3;", "3,4 4,4 3,5 4,5 3,6 4,6");
            good("rect 3 4 1 1;", "3,4");
            good("rect 15 15 1 1;", "15,15");
            good("rect 14 14 2 2;", "14,14 15,14 14,15 15,15");
            good("rect 0 0 2 2;rect 1 1 2 1;", "0,0 1,0 0,1 1,1 2,1");
        });
        say("less", "less: a CELL is taken away", () -> {
            good("rect 0 0 3 1;less 0 0;", "1,0 2,0");
            good("rect 0 0 3 1;less 1 0;cell 1 0;", "0,0 1,0 2,0");
            good("rect 14 15 2 1;less 15 15;", "14,15");
            fault("cell 0 0;less 0 0;^", 8);
        });
        say("let", "let: the NAME is a number from then on", () -> {
            good("let a 1;cell a 0;let a 2;cell a 0;", "1,0 2,0");
            good("let a 1;let b a;let a 5;cell b b;", "1,1");
        });
        say("each once", "both E are worked once", () -> {
            good("let k 2;each k 0 k cell k 0;", "0,0 1,0 2,0");
            good("let k 1;each k k k+1 cell k 0;", "1,0 2,0");
            good("let k 3;each k k-3 k-1 cell k 0;", "0,0 1,0 2,0");
        });
        say("each in turn", "then the NAME is all numbers from the first to the second one in turn", () -> {
            good("each k 3 3 cell k 0;", "3,0");
            good("each k 3 4 cell k 0;", "3,0 4,0");
            good("each k 0-1 1 cell k+1 0;", "0,0 1,0 2,0");
            good("each k 0 9 cell k 0;", "0,0 1,0 2,0 3,0 4,0 5,0 6,0 7,0 8,0 9,0");
            // Upwards the eleventh CELL comes first, downwards it would be the 16.
            fault("rect 0 0 10 1;each k 0 1 ^cell 10+k*6 0;", 7);
        });
        say("each anew", "each time the STEP is done anew", () -> {
            good("each k 1 3 rect 0 k k 1;", "0,1 0,2 1,2 0,3 1,3 2,3");
            good("rect 0 0 5 1;each k 0 2 less k 0;", "3,0 4,0");
        });
        say("each none", "(none if the second one is less)", () -> {
            good("cell 0 0;each k 1 0 cell 99 99;", "0,0");
            good("cell 0 0;each k 9999 0 less 5 5;", "0,0");
            good("each k 1 1 cell k 0;", "1,0");
            fault("cell 0 0;each k 1 0 ^;", 1);
            fault("cell 0 0;each k 1 0 cell 0 ^q;", 2);
        });
        say("each keeps the last", "the NAME keeps the last it was", () -> {
            good("each k 1 3 cell 0 k;cell k-2 k;", "0,1 0,2 0,3 1,3");
            good("let k 9;each k 2 2 cell 0 k;cell k-1 k;", "0,2 1,2");
        });
        say("each keeps of none", "(what it was ahead, 0 if it was not told, if there was none)", () -> {
            good("let k 4;each k 3 2 cell 99 99;cell k k;", "4,4");
            good("each k 0 5 cell k 0;each k 3 2 cell 99 99;cell k 1;", "0,0 1,0 2,0 3,0 4,0 5,0 5,1");
            good("each k 3 2 cell 99 99;cell k k;", "0,0");
            good("each k 3 2 cell 99 99;cell k 0;let k 1;cell k k*0;", "0,0 1,0");
        });
    }

    private void names() {
        say("name told", "A NAME is told behind the E (both) of its let (each).", () -> {
            fault("let a ^a;", 2);
            fault("let a 1+^a;", 2);
            fault("each k ^k 1 cell 0 0;", 2);
            fault("each k 0 ^k cell 0 0;", 2);
            good("each k 0 1 cell k 0;", "0,0 1,0");
            good("let a 1;let a a+1;cell a 0;", "2,0");
            fault("cell ^a 0;let a 1;", 2);
            GluedPaper paper = of("let a 1;cell a a;");
            is("not in the next text", read(paper, "cell a a;"), 2 + 16 * 5);
        });
        say("eight names", "8 NAMES at most.", () -> {
            good(SEVEN + "let h 1;cell h 0;", "1,0");
            good(SEVEN + "each h 1 2 cell h 0;", "1,0 2,0");
            fault(SEVEN + "let h 1;let ^i 1;", 5);
            fault(SEVEN + "each h 1 2 cell h 0;let ^i 1;", 5);
            fault(SEVEN + "let h 1;each ^i 1 1 cell 0 0;", 5);
            good(SEVEN + "let h 1;let a 2;let h 3;each d 4 4 cell a h;", "2,3");
        });
        say("name words", "A NAME is another WORD than cell, rect, less, let, each.", () -> {
            for (String word : new String[] {"cell", "rect", "less", "let", "each"}) {
                fault("let ^" + word + " 1;", 1);
                fault("each ^" + word + " 0 1 cell 0 0;", 1);
                fault("cell ^" + word + " 0;", 1);
                String near = word.substring(1);
                good("let " + near + " 1;cell " + near + " 0;", "1,0");
                good("let " + word + "s 1;cell " + word + "s 0;", "1,0");
            }
        });
    }

    private void expressions() {
        say("sums", "E: PRODUCT { + or - PRODUCT }", () -> {
            good("cell 7 9-3-2;", "7,4");
            good("cell 9-3+2 9-(3+2);", "8,4");
            fault("cell 1+^;", 1);
            fault("cell ^+1 0;", 1);
            fault("cell ^-1 0;", 1);
            fault("cell 1-^-1 0;", 1);
            good("cell 0 0" + times(495, "+0") + ";", "0,0");
        });
        say("products", "PRODUCT: PART { * PART }", () -> {
            good("cell 2*3*2 1+2*3;", "12,7");
            good("cell 2*3+1 9-2*3-1;", "7,2");
            fault("cell 1*^;", 1);
            fault("cell ^*1 0;", 1);
            fault("cell 2*^*2 0;", 1);
            fault("cell 2*^+2 0;", 1);
        });
        say("parts", "PART: a NUMBER, a NAME that is told, ( E )", () -> {
            good("let a 4;cell 3 (a);", "3,4");
            good("cell ((1+1)*2) (7);", "4,7");
            fault("cell (^) 0;", 1);
            fault("cell (1^;", 1);
            fault("cell (1 ^2) 0;", 1);
            fault("cell 1^) 0;", 1);
            fault("cell (1^", 1);
        });
        say("part depth", "no PART lies within 5 of ( )", () -> {
            good("cell ((((1)))) ((((2))));", "1,2");
            fault("cell (((((^1))))) 0;", 5);
            fault("let a 1;cell 0 (((((^a)))));", 5);
            fault("cell (((((^(", 5);
            good("cell ((((1))))+((((1))))*((((2)))) 0;", "3,0");
            good("cell ((((1+1)*2)+1)+2) (1)+(1)+(1)+(1)+(1)+(1);", "7,6");
            fault("cell ((((1+(^1))))) 0;", 5);
            fault("let a (((((^1)))));", 5);
            fault("each k ((((0)))) (((((^1))))) cell 0 0;", 5);
        });
        say("ints wrap", "ints wrap", () -> {
            good("let a 256*256;cell a*a+1 a*a;", "1,0");
            // The greatest int and one more is the least; less one it is the greatest again.
            good("let m 256*256*128*256;let n m-1;cell n-n+1 m-n;", "1,1");
            good("let m 256*256*128*256;each k m-1 m-1 cell k-m+1 0;", "0,0");
            fault("let m 256*256*128*256;^cell m 0;", 4);
            fault("let m 256*256*128*256;^cell m-1 0;", 4);
            good("let m 256*256*128*256;cell 0-m-m 0;", "0,0");
        });
    }

    private void textFaults() {
        say("fault place", "kind + 16 * the place (from 0) of a token", () -> {
            is("at place 0", read(new GluedPaper(), ";"), 1);
            is("at place 1", read(new GluedPaper(), " ;"), 17);
            is("at place 999", read(new GluedPaper(), times(990, " ") + "cell 0 0;;"), 1 + 16 * 999);
            is("behind a line's end", read(new GluedPaper(), "\n\n16"), 33);
            is("a TOKEN's first sign", read(new GluedPaper(), "cell 0 abc;"), 2 + 16 * 7);
        });
        say("fault end", "the end being one at the text's length", () -> {
            fault("cell 0 0^", 1);
            fault("cell 0 0  ^", 1);
            fault("cell 0^", 1);
            fault("cell 0 0;let^", 1);
            fault("^", 8);
            fault("   ^", 8);
            is("a full TAPE", read(new GluedPaper(), times(992, " ") + "cell 0 0"), 1 + 16 * 1000);
            is("a word that is cut off", read(new GluedPaper(), times(992, " ") + "cell 0 0" + ";"), 1 + 16 * 1000);
        });
        say("fault first", "Of the first token from the left that is wrong", () -> {
            fault("^;;;", 1);
            fault("cell ^a abcdefghi;", 2);
            fault("cell ^abcdefghi a;", 1);
            fault(SEVEN + "let h 0;let ^i j;", 5);
            fault(SEVEN + "let h 0;cell ^j 0;let i 0;", 2);
            fault("cell 0 0^!(((((1", 1);
            fault("cell (((((^1))))) a;", 5);
        });
        say("fault least", "that is wrong the least: 1", () -> {
            fault("cell (((((^a))))) 0;", 2);
            fault("cell (((((^let))))) 0;", 1);
            fault("cell (((((^)))))) 0;", 1);
            fault("cell (((((^12345))))) 0;", 1);
            fault("cell (((((^abcdefghi))))) 0;", 1);
            fault("cell (((((^", 1);
            fault(SEVEN + "let h 0;let ^abcdefghi 0;", 1);
            fault(SEVEN + "let h 0;let ^cell 0;", 1);
            fault(SEVEN + "let h 0;each ^1 0;", 1);
        });
        say("fault 1", "1 it is none, or can't stand there", () -> {
            fault("cell 0 0 ^0;", 1);
            fault("cell 0 0 ^a;", 1);
            fault("cell 0^;", 1);
            fault("rect 0 0 1^;", 1);
            fault("rect 0 0 1 1 ^1;", 1);
            fault("less 0^;", 1);
            fault("less 0 0 ^0;", 1);
            fault("let ^1 1;", 1);
            fault("let a^;", 1);
            fault("let a 1 ^1;", 1);
            fault("each k 0^;", 1);
            fault("each k 0 1 ^let a 1;", 1);
            fault("each k 0 1 ^each j 0 1 cell 0 0;", 1);
            fault("each k 0 1 ^;", 1);
            fault("each k 0 1 cell 0 0 ^cell 1 0;", 1);
            fault("^a 0 0;", 1);
            fault("^1;", 1);
            fault("cell 0 0;^.", 1);
        });
        say("fault 2", "2 a NAME in E that is not told", () -> {
            fault("cell ^a 0;", 2);
            fault("cell 0 ^a;", 2);
            fault("rect 0 0 ^a 1;", 2);
            fault("rect 0 0 1 ^a;", 2);
            fault("less 0 ^a;", 2);
            fault("let b 1*(2+^a);", 2);
            fault("each k ^a 1 cell 0 0;", 2);
            fault("each k 0 ^a cell 0 0;", 2);
            fault("each k 1 0 cell ^a 0;", 2);
        });
        say("fault 5", "5 one too many: the ninth NAME (behind let, each), a PART within 5 others", () -> {
            fault(SEVEN + "let h 0;let ^i 0;", 5);
            fault(SEVEN + "let h 0;each ^i 0 0 cell 0 0;", 5);
            fault(SEVEN + "let h 0;cell ^i 0;", 2);
            fault("cell 0 (((((^0)))));", 5);
            fault("rect 0 0 1 (((((^0)))));", 5);
            fault("less (((((^0", 5);
        });
    }

    private void workFaults() {
        say("text before work", "A text without these is worked", () -> {
            fault("^cell 99 0;less 0 0;rect 0 0 16 16;", 4);
            fault("cell 99 0;cell 0 ^a;", 2);
            fault("cell 99 0;cell 0 0^", 1);
            fault("each k 0 99 cell 0 (^;", 1);
            fault("cell 99 0;let ^each", 1);
        });
        say("work first", "the first that is wrong then, at the word cell, rect, less of that STEP", () -> {
            fault("^cell 99 0;less 0 0;", 4);
            fault("cell 0 0;^less 1 1;cell 99 0;", 6);
            fault("cell 0 0;each k 0 3 ^cell 14+k 0;", 4);
            fault("each k 0 3 ^rect k 0 1 0;", 4);
            fault("cell 0 0;each k 0 1 ^less k 0;", 6);
            fault("cell 0 0;let a 1;\n ^rect a a a 0;less 1 1;", 4);
        });
        say("work 4", "4 a number is not as told (of rect: wide, high 1 to 16, all CELLS within 0 to 15)", () -> {
            fault("^rect 0 0 0 1;", 4);
            fault("^rect 0 0 1 0;", 4);
            fault("^rect 0 0 0-1 1;", 4);
            fault("^rect 0 0 17 1;", 4);
            fault("^rect 0 0 1 17;", 4);
            fault("^rect 0 0 16 1;", 7);
            fault("^rect 0 0 1 16;", 7);
            fault("^rect 0 0 16 16;", 7);
            good("rect 6 0 10 1;", "6,0 7,0 8,0 9,0 10,0 11,0 12,0 13,0 14,0 15,0");
            fault("^rect 7 0 10 1;", 4);
            good("rect 0 6 1 10;", "0,6 0,7 0,8 0,9 0,10 0,11 0,12 0,13 0,14 0,15");
            fault("^rect 0 7 1 10;", 4);
            fault("^rect 15 0 2 1;", 4);
            fault("^rect 0 15 1 2;", 4);
            fault("^rect 16 0 1 1;", 4);
            fault("^rect 0 16 1 1;", 4);
            fault("^rect 0-1 0 2 1;", 4);
            fault("^rect 0 0-1 1 2;", 4);
            fault("cell 0 0;^less 16 0;", 4);
            fault("cell 0 0;^less 0 0-1;", 4);
        });
        say("work 6", "6 a CELL is taken away that is not there", () -> {
            fault("^less 0 0;", 6);
            fault("cell 0 0;^less 1 0;", 6);
            fault("cell 0 0;^less 0 1;", 6);
            fault("cell 0 0;less 0 0;^less 0 0;", 6);
            fault("cell 0 0;^less 15 15;", 6);
        });
        say("work 7", "7 behind it there are more than 10 CELLS", () -> {
            good("rect 0 0 5 2;", "0,0 1,0 2,0 3,0 4,0 0,1 1,1 2,1 3,1 4,1");
            fault("rect 0 0 5 2;^cell 5 0;", 7);
            fault("rect 0 0 5 2;^cell 5 0;less 5 0;", 7);
            fault("^rect 0 0 11 1;", 7);
            good("rect 0 0 5 2;cell 4 1;rect 1 0 3 2;less 0 0;cell 5 1;",
                "1,0 2,0 3,0 4,0 0,1 1,1 2,1 3,1 4,1 5,1");
            fault("each k 0 15 ^cell k 0;", 7);
        });
        say("work each", "or at the word each: 4 more than 64 numbers", () -> {
            good("each k 0 63 cell 0 0;", "0,0");
            fault("^each k 0 64 cell 0 0;", 4);
            fault("cell 0 0;^each k 0-32 32 cell 0 0;", 4);
            good("each k 0-32 31 cell 0 0;", "0,0");
            good("each k 9000 9063 cell 0 0;", "0,0");
            fault("^each k 0 64 cell 99 0;", 4);
            fault("let m 256*256*128*256;^each k m m-1 cell 0 0;", 4);
            good("let m 256*256*128*256;each k m-1 m cell 99 0;cell 0 0;", "0,0");
            good("let m 256*256*128*256;each k m m+63 cell 0 0;each k m-64 m-1 cell 0 0;", "0,0");
        });
    }

    private void ends() {
        say("end 8", "8 no CELL", () -> {
            fault("let a 1;^", 8);
            fault("cell 3 3;less 3 3; ^", 8);
            fault("each k 1 0 cell 0 0;^", 8);
        });
        say("end 9", "9 not all CELLS hang together by sides", () -> {
            fault("cell 0 0;cell 2 0;^", 9);
            fault("cell 0 0;cell 1 1;^", 9);
            fault("cell 15 0;cell 0 1;^", 9);
            fault("cell 0 15;cell 0 0;^", 9);
            fault("rect 0 0 4 2;rect 5 0 2 1;^", 9);
            good("cell 0 0;cell 1 1;cell 1 0;", "0,0 1,0 1,1");
            fault("rect 0 0 3 3;less 1 1;cell 9 9;^", 9);
        });
        say("end 10", "10 there is a hole (the RIM is not one row)", () -> {
            fault("rect 0 0 3 3;less 1 1;^", 10);
            fault("rect 0 0 3 3;less 1 1;cell 3 0;cell 4 0; ^", 10);
            fault("rect 12 12 4 1;cell 12 13;cell 15 13;rect 12 14 4 1;^", 10);
            // A gap that opens at a corner alone is none: the RIM goes in and out there.
            good(OPEN_RING, "0,0 1,0 2,0 0,1 2,1 0,2 1,2");
            good("rect 0 0 3 3;less 1 1;less 0 0;cell 3 1;", "1,0 2,0 0,1 2,1 3,1 0,2 1,2 2,2");
            good("rect 0 0 3 3;", "0,0 1,0 2,0 0,1 1,1 2,1 0,2 1,2 2,2");
        });
        say("figure fault", "or its FAULT (all stays then)", () -> {
            GluedPaper paper = of("rect 3 2 2 1;");
            paper.glue(0, 1);
            paper.glue(2, 3);
            paper.undo();
            for (String text : new String[] {"", ";", "cell 0 a;", "cell 99 0;", "less 0 0;", "rect 0 0 11 1;", "cell 0 0;cell 2 0;",
                "rect 0 0 3 3;less 1 1;", "let a ((((((", "each k 0 64 cell 0 0;"}) {
                is("a fault", read(paper, text) != 0 ? 1 : 0, 1);
                is("squares", squares(paper), "3,2 4,2");
                is("glued", edges(paper, 3), "1 0 -1 -1 -1 -1");
                is("corners", corners(paper, 0), "0 1 0 3 4 5");
                is("acts", paper.count(3) * 10 + paper.count(4), 11);
                is("gluings", paper.gluings(), 5);
            }
            yes("what can be done again", paper.redo());
            is("glued", edges(paper, 3), "1 0 3 2 -1 -1");
        });
        say("figure anew", "nothing is GLUED then, no ACT is kept; MARKS stay", () -> {
            GluedPaper paper = body("rect 0 0 2 1;", 1);
            paper.choose(2);
            paper.undo();
            paper.mark(3, false);
            is("the same text", read(paper, "rect 0 0 2 1;"), 0);
            is("glued", edges(paper, 3), "-1 -1 -1 -1 -1 -1");
            is("pairs, acts, acts to do again, body", paper.count(2) + paper.count(3) + paper.count(4) + paper.count(5), 0);
            is("corners", corners(paper, 0), "0 1 2 3 4 5");
            no("undo", paper.undo());
            no("redo", paper.redo());
            is("another text", read(paper, "cell 9 9;"), 0);
            yes("the mark", paper.mark(3, true));
            is("as marked", edges(paper, 3), "1 0 5 4 3 2");
        });
        say("cells numbered", "CELLS are numbered by y, then by x.", () -> {
            good("cell 1 1;cell 0 1;cell 1 0;cell 2 1;cell 0 2;", "1,0 0,1 1,1 2,1 0,2");
            good("rect 0 6 1 4;rect 1 9 1 1;", "0,6 0,7 0,8 0,9 1,9");
            good("rect 14 9 2 2;cell 14 11;", "14,9 15,9 14,10 15,10 14,11");
        });
    }
}
