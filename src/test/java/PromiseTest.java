import support.Script;

/** Each promise of the document, on new objects: ordinary inputs, the edges, the refused calls. */
public final class PromiseTest {
    private static final String HUT = "hut{pen 0 1 1;pen 3 2 3;pen 5 1 3;pen 7 1 0;pen 4 99 0;"
        + "wire 0 1;wire 1 2;wire 0 2;wire 3 1;sheet 3;} = 5\n";
    private static int wrong;

    public static void main(String[] args) {
        newAndFeed();
        hutText();
        hutFaults();
        hutStartsAnew();
        lawText();
        workText();
        workSteps();
        sheets();
        copies();
        days();
        chainText();
        bookText();
        faultAndUndo();
        told();
        pensAndWires();
        records();
        outs();
        levels();
        sums();
        extremes();
        chains();
        rows();
        greatestHut();
        tunings();
        rings();
        books();
        readyAndLatest();
        likeness();
        liarReachRoom();
        seasons();
        images();
        statusAndCount();
        System.out.println(wrong == 0 ? "PromiseTest: all promises hold" : "PromiseTest: " + wrong + " lines are wrong");
        System.exit(wrong == 0 ? 0 : 1);
    }

    private static void check(String name, String lines) {
        wrong += new Script(new UnlikePens(), name).run(lines).wrong();
    }

    private static void newAndFeed() {
        check("1 a new object", """
            told(0) = 0
            told(1) = 0
            told(2) = 0
            told(9) = 0
            fault() = -1
            count(0) = 0
            count(1) = 0
            count(2) = 0
            status(0) = 0
            status(1) = 0
            through(12) = 12
            pen(0, 0) throws NoSuchElementException
            """);
        wrong += UnlikePens.NONE == -1 ? 0 : 1;
        StringBuilder full = new StringBuilder();
        for (int i = 1; i <= 30; i++) {
            full.append("feed(").append(i).append(", 0, 0, 0, -1) = ").append(20 * i).append("\n");
        }
        check("2 feed", full + """
            feed(0, 0, 0, 0, 0) = -1
            count(1) = 600
            feed(0, 0, 0, 0, 0) = -1
            law(1) = -9
            count(1) = 0
            feed(892415030, 0, 0, 0, 0) = 20
            law(4) = -9
            feed(892415030, 0, 0, 0, 0) = 20
            law(1) = 1
            would(0, 0, 0, 0, 0, 0, 0, 0) = 5
            feed(0, 0, 0, 0, 538976288) = 20
            law(20) = -9
            feed(538976288, 538976288, 538976288, 538976288, 538982201) = 20
            law(20) = 1
            would(0, 0, 0, 0, 0, 0, 0, 0) = 79
            """);
    }

    private static void hutText() {
        check("3 hut", HUT + """
            fault() = -1
            count(1) = 0
            told(1) = 4
            pen(4, 1) = 99
            hut{  pen0 1 1 ; pen 007   00000000000000000099 0;sheet 24;wire 0 1;sheet0;   } = 2
            fault() = -1
            pen(1, 0) = 7
            pen(1, 1) = 99
            pen(0, 3) = 0
            pen(1, 3) = 0
            hut{pen 1 2 3;} = 1
            pen(0, 3) = 8
            hut{} = 0
            fault() = -1
            tape{pen 1 2 3;}
            hut(21) throws IllegalArgumentException
            hut(-1) throws IllegalArgumentException
            count(1) = 20
            hut(10) = 1
            count(1) = 0
            hut(1) throws IllegalArgumentException
            told(0) = 1
            """);
        check("3 hut, as much as can be", "hut{" + "sheet 1;".repeat(60) + "} = 0\n"
            + "hut{" + "sheet 1;".repeat(36) + "pen 0 0 0;".repeat(8) + "wire 0 1;".repeat(16) + "sheet 2;   } = -7\n"
            + "fault() = 512\n"
            + "hut{" + "sheet 1;".repeat(35) + "pen 0 0 0;".repeat(8) + "wire 0 1;".repeat(16) + "sheet 2;   } = 8\n"
            + "told(1) = 16\npen(7, 3) = 2\n");
    }

    private static void hutFaults() {
        check("3, 8 faults of a hut", HUT + """
            hut{pen 8 1 1;} = -8
            fault() = 4
            hut{pen 1 100 1;} = -8
            fault() = 6
            hut{pen 1 1 99999999999999999999;} = -8
            fault() = 8
            hut{pen 1 1;} = -9
            fault() = 7
            hut{pen 1 1 1 1;} = -9
            fault() = 10
            hut{pen 1 1 1} = -9
            fault() = 9
            hut{pen 1 1 1   } = -9
            fault() = 12
            hut{pen 1 1 1;;} = -9
            fault() = 10
            hut{ pens 1 1 1;} = -9
            fault() = 1
            hut{pen 1 1 1; Pen 1 1 1;} = -9
            fault() = 11
            hut{pen 1 -1 1;} = -9
            fault() = 6
            hut{pen 1 1 1;wire 0 0;} = -8
            fault() = 17
            hut{pen 1 1 1;wire 0 1;} = -8
            fault() = 17
            hut{wire 0 1;} = -8
            fault() = 5
            hut{wire x 1;} = -9
            fault() = 5
            hut{sheet 25;} = -8
            fault() = 6
            hut{sheet} = -9
            fault() = 5
            hut{pen 1 100 x;} = -8
            fault() = 6
            told(0) = 5
            count(1) = 0
            """);
        String eight = "pen 0 0 0;".repeat(8);
        check("3 too many", "hut{" + eight + "} = 8\nhut{" + eight + " pen 9;} = -7\nfault() = 81\n"
            + "hut{" + eight + "pens 9;} = -9\nfault() = 80\n"
            + "hut{" + eight + "wire 0 1;".repeat(16) + "} = 8\n"
            + "hut{" + eight + "wire 0 1;".repeat(16) + "wire 9;} = -7\nfault() = 224\n"
            + "hut{" + "sheet 1;".repeat(60) + "sheet x;} = -7\nfault() = 480\n"
            + "hut{" + "sheet 1;".repeat(60) + "sheets 1;} = -9\nfault() = 480\n");
    }

    private static void hutStartsAnew() {
        check("3 hut starts anew", HUT + """
            law{77} = 1
            chain{0;} = 1
            book{1 1;} = 1
            work{read 1 9;day;read 4 1;} = 2
            image() = 1
            hut{pen 9;} = -8
            told(9) = 1
            told(2) = 1
            told(5) = 1
            told(7) = 1
            count(0) = 1
            count(2) = 1
            level(0, 1) = 77
            hut{pen 0 1 1;} = 1
            told(2) = 0
            told(4) = 0
            told(5) = 0
            told(6) = 0
            told(7) = 0
            told(8) = 0
            told(9) = 0
            count(0) = 0
            count(2) = 0
            undo() = -1
            restore() = -1
            level(0, 1) = 0
            level(0, 130) = 99
            """);
    }

    private static void lawText() {
        check("4 law", """
            law{in} = 1
            would(7, 0, 0, 0, 0, 0, 0, 0) = 7
            law{out} = 1
            would(7, 8, 0, 0, 0, 0, 0, 0) = 8
            law{ loss } = 1
            would(7, 8, 9, 0, 0, 0, 0, 0) = 9
            law{many} = 1
            would(7, 8, 9, 10, 0, 0, 0, 0) = 10
            law{day} = 1
            would(7, 8, 9, 10, 11, 0, 0, 0) = 11
            law{pen} = 1
            would(7, 8, 9, 10, 11, 6, 0, 0) = 6
            law{mul} = 1
            would(7, 8, 9, 10, 11, 6, 12, 0) = 12
            law{div} = 1
            would(7, 8, 9, 10, 11, 6, 12, 13) = 13
            law{2+3*4-5} = 1
            would(0, 0, 0, 0, 0, 0, 0, 0) = 9
            law{(2+3)*4} = 1
            would(0, 0, 0, 0, 0, 0, 0, 0) = 20
            law{90 - 20 - 3} = 1
            would(0, 0, 0, 0, 0, 0, 0, 0) = 67
            law{90 / 7 * 2 % 5} = 1
            would(0, 0, 0, 0, 0, 0, 0, 0) = 4
            law{50 + in / 2} = 1
            would(-7, 0, 0, 0, 0, 0, 0, 0) = 47
            law{50 + in % 4} = 1
            would(-7, 0, 0, 0, 0, 0, 0, 0) = 47
            law{5 + in / out + in % out} = 1
            would(9, 0, 0, 0, 0, 0, 0, 0) = 5
            law{in * out - 999} = 1
            would(65536, 65536, 0, 0, 0, 0, 0, 0) = 0
            law{in / out % 97} = 1
            would(-2147483648, -1, 0, 0, 0, 0, 0, 0) = 0
            law{7 + in % out} = 1
            would(-2147483648, -1, 0, 0, 0, 0, 0, 0) = 7
            law{in + 1} = 1
            would(2147483647, 0, 0, 0, 0, 0, 0, 0) = 0
            law{in - 1} = 1
            would(-2147483648, 0, 0, 0, 0, 0, 0, 0) = 99
            law{least [ in , 44 ] + most[1,out]} = 1
            would(99, -4, 0, 0, 0, 0, 0, 0) = 45
            would(3, 4, 0, 0, 0, 0, 0, 0) = 7
            law{((((((1))))))} = 1
            law{(most[(least[((1)),2]),3])+(1)} = 1
            would(0, 0, 0, 0, 0, 0, 0, 0) = 4
            """);
        check("4 faults of a law", """
            law{61} = 1
            law{} = -9
            fault() = 0
            law{   } = -9
            fault() = 3
            law{1000} = -8
            fault() = 0
            law{999} = 1
            law{62} = 1
            law{1 2} = -9
            fault() = 2
            law{1 +} = -9
            fault() = 3
            law{-1} = -9
            fault() = 0
            law{1 + (2} = -9
            fault() = 6
            law{1 + 2)} = -9
            fault() = 5
            law{()} = -9
            fault() = 1
            law{inn} = -9
            fault() = 0
            law{in5} = -9
            fault() = 2
            law{least(1,2)} = -9
            fault() = 5
            law{least[1;2]} = -9
            fault() = 7
            law{least[1,2)} = -9
            fault() = 9
            law{most} = -9
            fault() = 4
            law{(((((( (1)))))))} = -7
            fault() = 7
            law{((((((least[1,2]))))))} = -7
            fault() = 6
            law{least[least[most[most[least[least[most} = -7
            fault() = 34
            law{least[1,(((((2)))))]} = 1
            law{least[1,((((((2))))))]} = -7
            fault() = 13
            law{most[((((((2)))))),1]} = -7
            fault() = 10
            law{(1)+(1)+(1)+(1)+(1)+(1)+(1)+(1)+least[1,1]} = 1
            law{62} = 1
            law{((((((leas} = -9
            fault() = 6
            would(0, 0, 0, 0, 0, 0, 0, 0) = 62
            tape{1 +  5}
            law(3) = -9
            fault() = 3
            tape{1234567890}
            law(21) throws IllegalArgumentException
            law(-1) throws IllegalArgumentException
            count(1) = 20
            law(2) = 1
            count(1) = 0
            would(0, 0, 0, 0, 0, 0, 0, 0) = 12
            """);
        check("4 a long law", "law{" + "1+".repeat(74) + "24} = 1\nwould(0, 0, 0, 0, 0, 0, 0, 0) = 98\n"
            + "tape{" + "1+".repeat(75) + "1}\nlaw(151) throws IllegalArgumentException\ncount(1) = 160\n"
            + "law(149) = 1\nwould(0, 0, 0, 0, 0, 0, 0, 0) = 75\n");
    }

    private static void workText() {
        check("5 faults of work", HUT + """
            work{read 5 1;} = -8
            fault() = 5
            work{read 0 100000000;} = -8
            fault() = 7
            work{below 0 99999999;read 0 0;} = 2
            work{below 0 100000000;} = -8
            work{hear 4;} = -8
            fault() = 5
            work{hear 3} = -9
            fault() = 6
            work{wipe 5;} = -8
            fault() = 5
            work{tear 5;} = -8
            fault() = 5
            work{lay 0 25 0;} = -8
            fault() = 6
            work{lay 0 0 25;} = -8
            fault() = 8
            work{copy 5 0 0;} = -8
            fault() = 5
            work{copy 0 5 0;} = -8
            fault() = 7
            work{copy 0 0 25;} = -8
            fault() = 9
            work{tune 0 100 0;} = -8
            fault() = 7
            work{tune 0 0 100;} = -8
            fault() = 9
            work{again 61 [];} = -8
            fault() = 6
            work{again 60 [];} = 0
            work{again 1 [day;} = -9
            fault() = 13
            work{again 1 [day;]} = -9
            fault() = 14
            work{again 1 [day];} = -9
            fault() = 12
            work{again 1 day;} = -9
            fault() = 8
            work{day;];} = -9
            fault() = 4
            work{dayday;} = -9
            fault() = 0
            work{dayz;} = -9
            fault() = 0
            work{again1[]; copy0 0 0;} = 1
            undo() = 2
            work{day 1;} = -9
            fault() = 4
            work{read 0 1;read 0 1} = -9
            fault() = 17
            told(6) = 2
            told(2) = 0
            """);
        String seven = "again 1[again 1[again 1[again 1[again 1[again 1[";
        check("5 agains open at one time", "work{" + seven + "day;];];];];];];again 1[day;];} = 2\n"
            + "work{" + seven + "again 1[day;];];];];];];];} = -7\nfault() = 48\n"
            + "work{" + seven + "agains} = -9\nfault() = 48\ntold(2) = 2\n");
        check("5 work, as much as can be", "work{" + "day;".repeat(37) + "  } = 37\ntape{" + "day;".repeat(38)
            + "}\nwork(151) throws IllegalArgumentException\nwork(-1) throws IllegalArgumentException\n"
            + "count(1) = 160\nwork(148) = 37\ncount(1) = 0\ntold(2) = 74\n");
        check("5 sixteen works", "work{} = 0\n".repeat(15) + """
            work{x} = -9
            fault() = 0
            work{day;} = 1
            count(2) = 16
            tape{x}
            work(21) throws IllegalArgumentException
            count(1) = 20
            work(1) = -20
            fault() = -1
            count(1) = 0
            work{day;} = -20
            told(2) = 1
            undo() = 15
            work{day;day;} = 2
            work(0) = -20
            """);
    }

    private static void workSteps() {
        check("5 readings", HUT + """
            work{read 0 300;read 0 1;below 0 300;read 0 5;read 4 7;} = 3
            told(9) = 2
            told(5) = 2
            told(6) = 3
            record(0, 0) = 44
            record(0, 1) = 1
            record(0, 2) = -44
            work{hear 0;hear 2;hear 3;} = 2
            told(9) = 1
            record(1, 0) = -29
            record(2, 0) = -14
            told(4) = 5
            work{hear 1;} = 1
            record(2, 1) = -9
            """);
        check("5 two hundred steps", HUT + """
            work{again 20 [again 20 [tune 0 1 1;];];day;} = 0
            told(9) = 189
            told(2) = 0
            work{again 60[];again 0[day;];again 3[day;];} = 3
            told(2) = 3
            work{again 60[again 60[again 60[];];];day;} = 0
            told(2) = 3
            work{again 60[day;day;];again 60[day;];again 60[day;];day;} = 197
            told(2) = 200
            """);
        check("5 the level is asked ahead of the record", HUT + """
            law{50 - many} = 1
            work{read 0 1;read 0 1;} = 2
            told(5) = 1
            law{50 - day} = 1
            work{read 1 1;day;read 1 1;} = 3
            told(5) = 2
            law{in} = 1
            work{below 2 50;read 2 50;read 2 49;} = 3
            told(5) = 3
            """);
        check("5 tune", HUT + """
            work{tune 0 1 1;tune 0 1 2;tune 0 1 2;tune 0 2 2;} = 2
            told(9) = 2
            pen(0, 1) = 2
            pen(0, 2) = 2
            work{tune 4 99 1;read 4 30000000;} = 2
            record(4, 0) = -1324967296
            told(10) = 0
            """);
        check("5 endless ones are heard", """
            hut{pen 6 1 0;pen 4 1 1;pen 1 1 1;wire 0 1;wire 0 2;} = 3
            work{read 0 1;hear 0;hear 1;below 0 1;hear 0;hear 1;read 0 0;hear 0;hear 1;} = 9
            record(1, 0) = 2147483647
            record(2, 0) = -1
            record(1, 1) = -2147483648
            record(2, 1) = 0
            record(1, 2) = 0
            """);
    }

    private static void sheets() {
        check("5 wipe, tear, lay", HUT + """
            work{wipe 0;read 0 7;wipe 0;wipe 0;} = 2
            told(9) = 2
            pen(0, 3) = 3
            pen(0, 4) = 0
            work{read 0 7;tear 0;tear 0;wipe 0;read 0 1;} = 2
            told(9) = 3
            pen(0, 3) = -1
            pen(0, 4) = 0
            told(3) = 30
            work{lay 0 5 6;} = 0
            pen(0, 3) = -1
            work{read 1 9;lay 1 5 6;} = 1
            pen(1, 4) = 1
            work{lay 0 24 0;lay 1 9 9;read 1 1;tear 1;lay 1 5 3;} = 4
            pen(0, 3) = 24
            pen(1, 3) = 2
            pen(1, 4) = 0
            """);
    }

    private static void copies() {
        check("5 copy", """
            hut{pen 3 1 1;pen 3 1 1;pen 4 1 1;sheet 4;} = 3
            work{read 0 5;read 0 6;read 1 1;read 1 2;read 1 3;} = 5
            work{copy 0 1 1;} = 1
            record(1, 0) = 5
            record(1, 1) = 2
            pen(1, 4) = 3
            work{copy 0 1 3;} = 1
            record(1, 1) = 6
            record(1, 2) = 0
            pen(1, 4) = 3
            work{wipe 1;copy 0 1 1;} = 2
            pen(1, 4) = 1
            record(1, 0) = 5
            work{copy 0 1 4;} = 1
            pen(1, 4) = 2
            record(1, 1) = 6
            work{copy 0 0 4;copy 0 0 5;copy 0 1 5;copy 0 2 0;copy 0 1 0;} = 2
            told(9) = 3
            pen(0, 4) = 2
            work{lay 1 2 0;copy 0 1 3;copy 1 0 3;copy 1 0 2;} = 2
            record(0, 0) = 0
            record(0, 1) = 0
            pen(0, 4) = 2
            work{tear 1;copy 0 1 0;copy 1 0 0;copy 1 1 0;} = 1
            told(9) = 3
            work{lay 1 3 3;copy 0 1 0;copy 1 0 0;copy 1 1 0;copy 0 1 1;} = 4
            told(9) = 1
            pen(1, 3) = 0
            pen(0, 4) = 2
            """);
        check("5 strange ones are copied", """
            hut{pen 5 1 0;pen 5 1 0;} = 2
            work{read 0 0;read 0 1;below 0 1;copy 0 1 3;} = 4
            strange(1, 0) = 1
            strange(1, 1) = 2
            record(1, 2) = -2147483648
            work{day;} = 1
            strange(1, 0) = 0
            strange(1, 1) = 2
            record(1, 0) = 2147483647
            """);
    }

    private static void days() {
        check("5 days", HUT + """
            work{read 0 1;read 0 2;read 1 30;day;} = 4
            told(2) = 1
            pen(0, 4) = 1
            record(0, 0) = 2
            pen(1, 4) = 0
            work{day;day;read 0 9;copy 0 0 3;} = 4
            pen(0, 4) = 1
            record(0, 0) = 9
            """);
        check("5 places without a record are 0", """
            hut{pen 3 1 1;pen 3 1 1;pen 5 1 0;pen 5 1 1;sheet 3;} = 4
            work{read 0 5;read 0 6;day;read 1 7;read 1 8;copy 0 1 2;} = 6
            record(1, 0) = 6
            record(1, 1) = 0
            work{wipe 0;read 1 9;copy 0 1 3;} = 3
            total(1) = 0
            pen(1, 4) = 3
            work{read 2 1;tune 2 1 1;read 2 6;read 2 7;day;day;} = 6
            work{again 3[read 3 1;];copy 2 3 3;} = 4
            record(3, 0) = 7
            record(3, 1) = 0
            record(3, 2) = 0
            work{tune 2 1 0;read 2 1;lay 2 3 0;tune 2 1 1;read 2 8;copy 2 3 2;} = 6
            record(3, 0) = 8
            record(3, 1) = 0
            strange(3, 1) = 0
            """);
        check("5 real ones move, are copied", """
            hut{pen 6 1 4;pen 6 1 1;sheet 3;} = 2
            work{read 0 9;read 0 10;read 0 11;copy 0 1 2;} = 4
            record(1, 0) = 2
            record(1, 1) = 2
            extreme(1, 0) = 1
            extreme(0, 0) = 2
            work{day;read 0 8;} = 2
            extreme(0, 0) = 1
            extreme(0, 1) = 2
            image() = 1
            work{wipe 0;} = 1
            restore() = 0
            extreme(0, 0) = 1
            record(0, 2) = 2
            undo() = 1
            extreme(0, 1) = 0
            """);
        check("13 and others on a full sheet of 24", """
            hut{pen 4 1 1;pen 4 2 1;sheet 24;} = 2
            work{again 25[read 0 3;];again 24[read 1 1;];} = 48
            told(9) = 1
            record(0, 23) = 3
            record(0, 24) throws IndexOutOfBoundsException
            latest(0) = 3
            total(0) = 72
            strange(0, 1) = 0
            extreme(0, 0) = 0
            extreme(0, 1) = 0
            alike(0, 1) = false
            alike(0, 0) = true
            level(0, 0) = 0
            ready(0) = 0
            room() = 0
            work{copy 0 1 24;} = 1
            alike(0, 1) = true
            image() = 1
            season(1, 9, 9, 2) = 38
            work{day;} = 1
            total(1) = 69
            restore() = 0
            undo() = 1
            total(1) = 48
            """);
        check("5, 37 day 900", "hut{pen 3 1 1;} = 1\n" + "work{again 60[again 60[day;];];} = 195\n".repeat(4) + """
            told(2) = 780
            work{again 60[day;];again 59[day;];} = 119
            work{day;read 0 5;read 0 6;day;} = 3
            told(9) = 1
            told(2) = 900
            pen(0, 4) = 2
            work{day;} = 0
            told(9) = 1
            law{day - 851} = 1
            season(1, 3, 5, 1) = 2
            told(2) = 900
            """);
    }

    private static void chainText() {
        check("6 chain", HUT + """
            chain{0;1;} = 2
            told(7) = 2
            chain{} = 0
            told(7) = 0
            chain{ 4 ; 4;0;0;0;0;0;0;0;0;0;0; } = 12
            chain{0;0;0;0;0;0;0;0;0;0;0;0;0;} = -7
            fault() = 24
            chain{0;0;0;0;0;0;0;0;0;0;0;0;5;} = -8
            fault() = 24
            chain{0;0;0;0;0;0;0;0;0;0;0;0;x;} = -9
            fault() = 24
            chain{0;5;} = -8
            fault() = 2
            chain{0;1} = -9
            fault() = 3
            chain{0 1;} = -9
            fault() = 2
            chain{;} = -9
            fault() = 0
            told(7) = 12
            tape{0;0;                                                         0;}
            chain(61) throws IllegalArgumentException
            chain(-1) throws IllegalArgumentException
            chain(60) = 2
            chain(1) throws IllegalArgumentException
            """);
    }

    private static void bookText() {
        check("7 book", """
            book{9999 9999999;0 0;} = 2
            told(8) = 2
            book{10000 1;} = -8
            fault() = 0
            book{1 10000000;} = -8
            fault() = 2
            book{1;} = -9
            fault() = 1
            book{1 2} = -9
            fault() = 3
            book{1 2;x} = -9
            fault() = 4
            told(8) = 2
            book{1 2;1 2;1 2;1 2;1 2;1 2;} = 6
            book{1 2;1 2;1 2;1 2;1 2;1 2;1 x;} = -7
            fault() = 24
            book{1 2;1 2;1 2;1 2;1 2;1 2; 10000 2;} = -8
            fault() = 25
            book{1 2;1 2;1 2;1 2;1 2;1 2;y} = -9
            fault() = 24
            told(8) = 6
            book{} = 0
            told(8) = 0
            tape{1 2;}
            book(21) throws IllegalArgumentException
            book(-1) throws IllegalArgumentException
            count(1) = 20
            book(4) = 1
            feed(0, 0, 0, 0, 0) = 20
            feed(0, 0, 0, 0, 0) = 40
            feed(0, 0, 0, 0, 0) = 60
            feed(0, 0, 0, 0, 0) = 80
            book(61) throws IllegalArgumentException
            book(60) = -9
            """);
    }

    private static void faultAndUndo() {
        check("8 fault", """
            fault() = -1
            law{1 + } = -9
            fault() = 4
            chain(1) throws IllegalArgumentException
            fault() = 4
            undo() = -1
            fault() = 4
            book{} = 0
            fault() = -1
            """);
        check("9 undo", HUT + """
            undo() = -1
            work{read 1 9;tune 1 5 5;read 4 1;} = 2
            work{} = 0
            work{read 0 200;day;tear 2;lay 3 9 0;read 9 1;} = -8
            work{read 0 200;day;tear 2;lay 3 9 0;read 2 1;} = 4
            told(9) = 1
            told(5) = 1
            undo() = 2
            told(2) = 0
            told(3) = 31
            told(4) = 1
            told(5) = 0
            told(6) = 1
            told(9) = 0
            pen(3, 3) = 3
            undo() = 1
            record(1, 0) = 6
            undo() = 0
            pen(1, 1) = 2
            pen(1, 2) = 3
            told(4) = 0
            told(6) = 0
            undo() = -1
            """);
    }

    private static void told() {
        check("10 told", HUT + """
            chain{0;0;1;} = 3
            book{1 1;} = 1
            work{read 0 100;read 0 200;day;tear 1;read 4 1;read 1 1;} = 4
            told(0) = 5
            told(1) = 4
            told(2) = 1
            told(3) = 29
            told(4) = 1
            told(5) = 1
            told(6) = 2
            told(7) = 3
            told(8) = 1
            told(9) = 2
            told(10) = 16
            work{x} = -9
            told(9) = 2
            told(11) throws IllegalArgumentException
            told(-1) throws IllegalArgumentException
            work{tune 0 5 0;tune 1 0 0;tune 2 0 0;} = 3
            told(10) = 19
            told(9) = 0
            """);
        check("10 refused steps", "hut{pen 0 1 0;} = 1\n" + "work{} = 0\n".repeat(15) + """
            work{read 0 1;} = 0
            told(9) = 1
            work(0) = -20
            told(9) = 1
            restore() = -1
            told(9) = 1
            image() = 1
            told(9) = 1
            restore() = 0
            told(9) = 0
            """);
        check("10 nothing to undo leaves it", """
            hut{pen 0 1 0;} = 1
            work{read 0 1;} = 0
            undo() = 0
            told(9) = 0
            work{wipe 0;} = 0
            hut{} = 0
            told(9) = 0
            """);
    }

    private static void pensAndWires() {
        check("11, 12 pens, wires", HUT + """
            pen(1, 0) = 3
            pen(1, 1) = 2
            pen(1, 2) = 3
            pen(1, 3) = 3
            pen(1, 4) = 0
            pen(0, 5) = 6
            pen(1, 5) = 4
            pen(1, 6) = 9
            pen(2, 6) = 3
            pen(4, 6) = 0
            pen(0, 7) throws IllegalArgumentException
            pen(0, -1) throws IllegalArgumentException
            pen(5, 0) throws NoSuchElementException
            pen(-1, 9) throws NoSuchElementException
            wire(0, 0) = 0
            wire(0, 1) = 1
            wire(3, 0) = 3
            wire(3, 1) = 1
            wire(4, 0) throws NoSuchElementException
            wire(-1, 5) throws NoSuchElementException
            wire(0, 2) throws IllegalArgumentException
            wire(0, -1) throws IllegalArgumentException
            work{tear 1;tune 1 9 8;read 0 1;} = 3
            pen(1, 1) = 9
            pen(1, 2) = 8
            pen(1, 3) = -1
            pen(0, 4) = 1
            """);
    }

    private static void records() {
        check("13 record", HUT + """
            work{read 0 300;read 0 7;read 3 7;} = 3
            record(0, 0) = 44
            record(0, 1) = 7
            record(3, 0) = 1
            record(0, 2) throws IndexOutOfBoundsException
            record(0, -1) throws IndexOutOfBoundsException
            record(5, -1) throws NoSuchElementException
            work{tear 0;} = 1
            record(0, 0) throws IndexOutOfBoundsException
            status(3) = 3
            """);
    }

    private static void outs() {
        check("14 out by whole kinds", """
            hut{pen 0 1 1;pen 1 1 1;pen 2 1 1;pen 3 99 2;pen 4 99 2;pen 7 3 2;pen 0 7 2;pen 4 0 0;} = 8
            out(0, 300) = 44
            out(0, 200) = -56
            out(0, -129) = 127
            out(1, 40000) = -25536
            out(1, -32769) = 32767
            out(2, -1) = 65535
            out(2, 70000) = 4464
            out(3, 2147483647) = 1073741774
            out(3, -5) = -247
            out(4, 2147483647) = -1073741874
            out(4, -5) = -247
            out(5, 5) = 1
            out(5, 4) = 0
            out(5, -5) = 1
            out(5, 2147483647) = 1
            out(6, -3) = -10
            out(6, 73) = -1
            out(7, 0) throws ArithmeticException
            out(8, 0) throws NoSuchElementException
            status(4) = 1
            """);
        check("14 out by real kinds", """
            hut{pen 5 1 1;pen 6 1 1;pen 5 3 3;pen 6 3 3;pen 5 1 0;pen 6 99 1;pen 5 0 0;pen 6 1 3;} = 8
            out(0, 16777217) = 16777216
            out(0, 16777219) = 16777220
            out(0, 2147483647) = 2147483647
            out(0, -2147483648) = -2147483648
            out(1, 16777217) = 16777217
            out(1, 2147483646) = 2147483646
            out(2, 16777217) = 16777216
            out(3, 16777217) = 16777217
            out(4, 5) = 2147483647
            out(4, -5) = -2147483648
            out(4, 0) = 0
            out(5, 2147483647) = 2147483647
            out(5, -2147483648) = -2147483648
            out(5, 3) = 297
            out(6, 5) = 0
            out(7, -10) = -3
            out(7, 10) = 3
            """);
    }

    private static void levels() {
        check("15 level", HUT + """
            level(0, 300) = 99
            level(1, 10) = 4
            level(4, 7) = 0
            level(1, -10) = 4
            law{in + out + loss + 40} = 1
            level(4, 7) = 47
            level(0, 7) = 54
            law{loss / 99999 % 100} = -8
            law{loss / 999 / 999 / 22} = 1
            level(3, -2147483648) = 97
            law{pen * 10 + mul + div} = 1
            level(1, 0) = 15
            level(4, 0) = 99
            law{many * 10 + day} = 1
            work{read 0 1;read 0 1;read 0 1;day;} = 4
            level(0, 5) = 21
            work{tear 0;} = 1
            level(0, 5) = 1
            level(5, 0) throws NoSuchElementException
            """);
        check("16 would", """
            would(5, 9, 4, 0, 0, 0, 1, 1) = 4
            law{in % 7 + out / 5 - loss + many * 3 + day * 2 + pen - mul + div} = 1
            would(-8, 50, 1, 2, 3, 4, 5, 6) = 25
            would(0, 0, 2147483647, 0, 0, 0, 0, 0) = 0
            would(0, 0, -1, 0, 0, 0, 0, 0) throws IllegalArgumentException
            would(0, 0, 0, 24, 0, 0, 0, 0) = 72
            would(0, 0, 0, 25, 0, 0, 0, 0) throws IllegalArgumentException
            would(0, 0, 0, -1, 0, 0, 0, 0) throws IllegalArgumentException
            would(0, 0, 0, 0, 900, 0, 0, 0) = 99
            would(0, 0, 0, 0, 901, 0, 0, 0) throws IllegalArgumentException
            would(0, 0, 0, 0, -1, 0, 0, 0) throws IllegalArgumentException
            would(0, 0, 0, 0, 0, 7, 0, 0) = 7
            would(0, 0, 0, 0, 0, 8, 0, 0) throws IllegalArgumentException
            would(0, 0, 0, 0, 0, -1, 0, 0) throws IllegalArgumentException
            would(0, 0, 0, 0, 0, 0, 99, 99) = 0
            would(0, 0, 0, 0, 0, 0, 100, 0) throws IllegalArgumentException
            would(0, 0, 0, 0, 0, 0, -1, 0) throws IllegalArgumentException
            would(0, 0, 0, 0, 0, 0, 0, 100) throws IllegalArgumentException
            would(0, 0, 0, 0, 0, 0, 0, -1) throws IllegalArgumentException
            would(-2147483648, 2147483647, 0, 0, 0, 0, 0, 0) = 99
            status(1) = 11
            """);
    }

    private static void sums() {
        check("17 total", """
            hut{pen 6 1 0;pen 3 1 1;pen 7 1 0;sheet 4;} = 3
            total(0) = 0
            work{read 0 0;read 0 1;below 0 1;} = 3
            total(0) = -1
            work{read 0 1;read 1 5;below 1 7;read 2 1;read 2 3;read 2 4;} = 6
            total(0) = 2147483646
            total(1) = -2
            total(2) = 2
            work{wipe 0;read 0 1;read 0 1;below 0 1;} = 4
            total(0) throws ArithmeticException
            work{wipe 0;below 0 1;below 0 1;read 0 1;} = 4
            total(0) throws ArithmeticException
            total(3) throws NoSuchElementException
            work{tear 0;} = 1
            total(0) = 0
            """);
        check("18 strange", """
            hut{pen 5 1 0;pen 6 1 0;pen 3 1 1;} = 3
            work{read 0 0;read 0 4;below 0 4;tune 0 0 0;read 0 9;tune 0 1 1;read 0 9;} = 7
            strange(0, 0) = 2
            strange(0, 1) = 2
            strange(1, 0) = 0
            work{read 1 0;read 2 0;} = 2
            strange(1, 0) = 1
            strange(1, 1) = 0
            strange(2, 0) = 0
            strange(2, 1) = 0
            strange(0, 2) throws IllegalArgumentException
            strange(0, -1) throws IllegalArgumentException
            strange(3, 2) throws NoSuchElementException
            """);
    }

    private static void extremes() {
        check("19 extreme", """
            hut{pen 5 1 0;pen 4 99 1;pen 7 1 0;pen 6 1 3;pen 2 1 1;} = 5
            extreme(0, 0) = -1
            work{read 0 0;} = 1
            extreme(0, 0) = -1
            extreme(0, 1) = -1
            work{read 0 4;read 0 9;below 0 1;tune 0 1 1;read 0 99999999;} = 5
            extreme(0, 0) = 1
            extreme(0, 1) = 3
            work{read 1 50000000;read 1 1;read 1 99999999;below 1 60000000;} = 4
            extreme(1, 0) = 2
            extreme(1, 1) = 3
            work{read 2 2;read 2 3;read 2 5;read 2 4;} = 4
            extreme(2, 0) = 1
            extreme(2, 1) = 0
            work{read 3 4;read 3 5;read 3 5;below 3 1;below 3 2;} = 5
            extreme(3, 0) = 1
            extreme(3, 1) = 4
            work{below 4 1;read 4 5;} = 2
            extreme(4, 0) = 0
            extreme(4, 1) = 1
            extreme(0, 2) throws IllegalArgumentException
            extreme(0, -1) throws IllegalArgumentException
            extreme(5, 2) throws NoSuchElementException
            work{tear 0;} = 1
            extreme(0, 0) = -1
            """);
        check("19 zeros with a sign, long ones", """
            hut{pen 5 0 1;pen 6 0 1;pen 4 99 1;} = 3
            work{read 0 1;below 0 1;below 1 1;read 1 1;} = 4
            extreme(0, 1) = 0
            extreme(1, 0) = 0
            work{read 2 43383508;read 2 1;} = 2
            record(2, 0) = -4
            record(2, 1) = 99
            extreme(2, 0) = 0
            extreme(2, 1) = 1
            """);
    }

    private static void chains() {
        check("20 to 23, 33 the chain", HUT + """
            through(77) = 77
            kept(-3, 7) = 7
            chained(0) = 0
            chain{0;1;} = 2
            through(300) = 29
            through(-300) = -29
            kept(0, 4) = 1
            kept(-2, 5) = 1
            kept(0, 0) = 0
            kept(0, 1000) = 1
            gives(0, 0, 0) = -1
            kept(0, 1001) throws IllegalArgumentException
            kept(0, -1) throws IllegalArgumentException
            gives(2, 0, 10) = 3
            gives(2, 0, 3) = -1
            gives(2, 3, 1) = 0
            gives(99, 0, 1000) = -1
            gives(0, 0, 1001) throws IllegalArgumentException
            gives(0, 0, -1) throws IllegalArgumentException
            worst(0, 4, 0) = 1
            worst(0, 4, 1) = 1
            worst(0, 5, 0) = 4
            worst(0, 5, 1) = 2
            worst(0, 0, 0) = -1
            worst(0, 0, 1) = -1
            worst(0, 1, 0) = 0
            worst(0, 1, 1) = 0
            worst(0, 1, 2) throws IllegalArgumentException
            worst(0, 1, -1) throws IllegalArgumentException
            worst(0, 1001, 0) throws IllegalArgumentException
            worst(0, -1, 0) throws IllegalArgumentException
            chained(0) = 1
            chained(3) = 1
            chained(7) = 0
            chained(8) throws IllegalArgumentException
            chained(-1) throws IllegalArgumentException
            chain{0;4;1;} = 3
            chained(4) = 1
            through(1) throws ArithmeticException
            kept(0, 5) = 0
            gives(0, 0, 5) = -1
            worst(0, 5, 0) = -1
            worst(0, 5, 1) = -1
            work{tune 4 1 1;} = 1
            through(300) = 29
            work{tune 4 1 0;} = 1
            chain{4;0;} = 2
            through(1) throws ArithmeticException
            kept(0, 1) = 0
            """);
        check("20 to 23 at the ends of the numbers", """
            hut{pen 3 1 1;pen 3 0 1;pen 3 1 1;} = 3
            kept(2147483647, 3) = 3
            gives(-2147483647, 2147483647, 3) = 2
            chain{1;} = 1
            worst(2147483647, 3, 0) = 0
            worst(2147483646, 3, 0) = 1
            worst(2147483646, 3, 1) = 2147483647
            gives(0, -5, 3) = 0
            work{tune 0 2 1;} = 1
            chain{0;} = 1
            through(2147483647) = -2
            worst(2147483646, 2, 0) = 0
            worst(2147483646, 2, 1) = 2147483647
            """);
    }

    private static void rows() {
        check("24, 25 best, hop", HUT + """
            best(0, 2, 300, 0) = 286
            best(0, 2, 300, 1) = 2
            hop(0, 2, 300, 0) = 0
            hop(0, 2, 300, 1) = 2
            hop(0, 2, 300, 2) = -1
            hop(0, 2, 300, 2147483647) = -1
            best(2, 0, 5, 0) = -1
            best(2, 0, 5, 1) = -1
            hop(2, 0, 5, 0) = -1
            best(1, 1, 10, 0) = 4
            best(1, 1, 10, 1) = 1
            hop(1, 1, 10, 0) = 1
            best(4, 4, 1, 0) = -1
            best(3, 2, 9, 0) = 9
            best(3, 2, 9, 1) = 3
            best(0, 2, 9, 2) throws IllegalArgumentException
            best(0, 2, 9, -1) throws IllegalArgumentException
            best(0, 5, 9, 2) throws NoSuchElementException
            best(-1, 0, 9, 2) throws NoSuchElementException
            hop(0, 2, 300, -1) throws IllegalArgumentException
            hop(5, 2, 300, -1) throws NoSuchElementException
            hop(0, -1, 300, -1) throws NoSuchElementException
            work{tune 1 3 1;} = 1
            best(0, 2, 9, 0) = 0
            hop(0, 2, 9, 1) = 1
            best(0, 2, 9, 1) = 3
            work{tune 1 0 0;} = 1
            best(0, 2, 9, 0) = 6
            best(3, 2, 9, 0) = -1
            """);
        check("24, 25 of alike rows the first", """
            hut{pen 3 1 1;pen 3 1 1;pen 3 1 1;pen 3 1 1;pen 0 1 1;wire 0 2;wire 2 3;wire 0 1;wire 1 3;wire 1 2;wire 0 4;wire 4 3;wire 3 0;} = 5
            best(0, 3, 9, 0) = 0
            best(0, 3, 9, 1) = 3
            hop(0, 3, 9, 1) = 1
            best(0, 3, 300, 1) = 3
            work{tune 1 2 1;} = 1
            hop(0, 3, 9, 1) = 2
            work{tune 2 1 2;} = 1
            best(0, 3, 300, 1) = 4
            hop(0, 3, 300, 1) = 1
            hop(0, 3, 300, 2) = 2
            hop(0, 3, 300, 3) = 3
            best(1, 1, 300, 1) = 1
            """);
        check("24, 25 by the PEN 0", """
            hut{pen 3 1 1;pen 3 1 1;pen 3 1 1;wire 1 0;wire 0 2;} = 3
            best(1, 2, 7, 1) = 3
            hop(1, 2, 7, 0) = 1
            hop(1, 2, 7, 1) = 0
            hop(1, 2, 7, 2) = 2
            best(2, 1, 7, 1) = -1
            """);
        check("24 far ones are alike", """
            hut{pen 3 0 1;pen 3 1 1;pen 3 2 1;wire 0 1;wire 1 0;wire 0 2;wire 2 1;} = 3
            best(0, 1, -2147483648, 0) = 2147483647
            best(0, 1, -2147483648, 1) = 2
            best(2, 2, 2147483647, 0) = 2147483647
            """);
    }

    private static void greatestHut() {
        String hut = "hut{" + "pen 3 1 1;".repeat(8) + "wire 0 7;".repeat(8) + "wire 7 0;".repeat(8) + "} = 8\n";
        check("11 to 40 on the greatest hut", hut + hut + """
            pen(7, 5) = 1
            pen(7, 6) = 1
            pen(1, 6) = 0
            wire(15, 0) = 7
            reach(7) = 129
            fits() = 255
            look(1) = 8
            told(3) = 255
            room() = 64
            ready(0) = 255
            liar(3, 0) = 0
            best(7, 0, 5, 1) = 2
            best(1, 0, 5, 1) = -1
            work{read 7 5;hear 15;hear 0;read 1 1;day;tune 7 2 1;} = 6
            image() = 1
            undo() = 0
            told(4) = 0
            restore() = 0
            told(4) = 1
            latest(7) = 5
            pen(7, 1) = 2
            season(9, 96, 16, 2) = 0
            span(9, 9, 9, 9, 2, 7) = 0
            """);
        StringBuilder row = new StringBuilder("hut{" + "pen 3 1 1;".repeat(8));
        for (int i = 7; i > 0; i--) {
            row.append("wire ").append(i).append(" ").append(i - 1).append(";");
        }
        check("24, 25 a row of eight", row + "} = 8\nbest(7, 0, 3, 1) = 8\nhop(7, 0, 3, 7) = 0\nhop(7, 0, 3, 8) = -1\n"
            + "hop(7, 0, 3, 3) = 4\nreach(7) = 255\nreach(3) = 15\n");
    }

    private static void tunings() {
        check("26 tuning", HUT + """
            tuning(1, 10, 6) = 203
            tuning(3, 1, 1) = 102
            tuning(0, 1, 200) = -1
            tuning(1, 1, 1) = 101
            tuning(1, 1, 99) = 9901
            tuning(1, 99, 1) = 150
            tuning(1, 0, 1) = -1
            tuning(1, 9702, 9701) = -1
            tuning(1, 98, 99) = 5150
            tuning(1, 99, 98) = 9899
            tuning(4, 5, 5) = 101
            tuning(0, 300, 44) = 101
            tuning(2, 10, 3) = 103
            tuning(2, 5, 2147483647) = -1
            tuning(1, 431529176, -2305904) = 9999
            tuning(5, 0, 0) throws NoSuchElementException
            pen(1, 1) = 2
            """);
    }

    private static void rings() {
        check("27 ring", HUT + """
            ring(0, 300, 0) = 2
            ring(0, 300, 1) = 1
            ring(1, 10, 0) = 6
            ring(1, 10, 1) = 1
            ring(4, 1, 0) = -1
            ring(4, 1, 1) = -1
            ring(0, 5, 0) = 1
            ring(0, 5, 1) = 1
            ring(0, 5, 2) throws IllegalArgumentException
            ring(0, 5, -1) throws IllegalArgumentException
            ring(5, 5, 2) throws NoSuchElementException
            work{tune 0 3 1;tune 1 2 1;tune 3 1 1;} = 3
            ring(0, 1, 0) = 64
            ring(0, 1, 1) = 64
            ring(0, 257, 0) = 65
            ring(0, 257, 1) = 64
            ring(1, 1, 0) = 33
            ring(1, 1, 1) = 1
            ring(3, 1, 0) = 2
            ring(3, 1, 1) = 2
            """);
        check("27 within a thousand", """
            hut{pen 2 3 1;pen 3 3 1;} = 2
            ring(0, 1, 0) = -1
            ring(0, 1, 1) = -1
            ring(1, 1, 0) = -1
            ring(0, 32, 0) = 512
            ring(0, 64, 1) = 256
            ring(0, 16, 0) = -1
            """);
        check("27 a thousand, and one more", """
            hut{pen 1 15 2;pen 1 59 12;pen 2 5 2;pen 2 57 43;} = 4
            ring(0, 52, 0) = 1000
            ring(0, 52, 1) = 592
            ring(0, 7, 0) = -1
            ring(0, 7, 1) = -1
            ring(1, 19, 0) = 1000
            ring(1, 19, 1) = 1000
            ring(2, 12, 0) = 1000
            ring(2, 12, 1) = 1
            ring(2, 30, 0) = 999
            ring(2, 5, 1) = -1
            ring(3, 27, 0) = -1
            ring(3, 27, 1) = -1
            """);
    }

    private static void books() {
        check("28, 29 fits, look", HUT + """
            fits() = 31
            look(0) = 4
            look(1) = 1
            book{10 6;} = 1
            fits() = 2
            look(0) = 0
            look(1) = 1
            book{3 1;4 1;} = 2
            fits() = 4
            book{9 9;9 8;} = 2
            fits() = 0
            look(0) = -1
            look(1) = -1
            look(2) throws IllegalArgumentException
            look(-1) throws IllegalArgumentException
            book{} = 0
            work{tune 0 1 0;tune 1 1 0;} = 2
            fits() = 31
            look(1) = 3
            look(0) = 0
            book{0 0;} = 1
            fits() = 12
            work{tune 0 1 1;} = 1
            book{150 -1;} = -9
            book{44 44;} = 1
            fits() = 1
            look(0) = 0
            look(1) = 1
            """);
        check("29 nothing tells them apart", """
            hut{pen 3 1 1;pen 4 1 1;pen 0 1 1;pen 6 1 1;} = 4
            fits() = 15
            look(0) = 0
            look(1) = 4
            work{tune 2 2 1;} = 1
            look(0) = 1
            look(1) = 3
            """);
        check("29 up to 99", """
            hut{pen 0 13 10;pen 3 13 10;} = 2
            look(0) = 99
            look(1) = 1
            hut{pen 0 9 7;pen 3 9 7;} = 2
            look(0) = 0
            look(1) = 2
            """);
        check("7, 28 a fault leaves the book", """
            hut{pen 3 1 1;pen 3 2 1;} = 2
            book{1 2;} = 1
            fits() = 2
            book{1 1;1} = -9
            fits() = 2
            book{1 1;} = 1
            fits() = 1
            book{3 6;1;} = -9
            fits() = 1
            chain{1;} = 1
            chain{0;0} = -9
            through(5) = 10
            chain{0;1;1;} = 3
            chain{1;2;} = -8
            through(5) = 20
            """);
    }

    private static void readyAndLatest() {
        check("30, 31 ready, latest", HUT + """
            ready(5) = 15
            work{read 0 1;read 0 2;read 0 3;tear 1;lay 3 0 0;} = 5
            ready(-7) = 4
            latest(0) = 3
            latest(1) throws NullPointerException
            latest(2) throws IndexOutOfBoundsException
            latest(3) throws IndexOutOfBoundsException
            latest(5) throws NoSuchElementException
            latest(-1) throws NoSuchElementException
            work{day;tune 4 1 1;} = 2
            ready(0) = 21
            latest(0) = 3
            work{day;} = 1
            latest(0) = 3
            work{day;} = 1
            latest(0) throws IndexOutOfBoundsException
            work{read 0 9;} = 1
            latest(0) = 9
            status(2) = 1
            status(3) = 3
            """);
    }

    private static void likeness() {
        check("32 alike", """
            hut{pen 3 1 1;pen 3 2 1;pen 4 1 1;pen 5 1 0;pen 5 1 1;} = 5
            alike(0, 0) = true
            alike(0, 1) = true
            alike(0, 2) = false
            work{read 0 4;} = 1
            alike(0, 1) = false
            work{read 1 2;} = 1
            alike(0, 1) = true
            work{read 0 5;read 1 3;} = 2
            alike(1, 0) = false
            work{wipe 0;wipe 1;read 0 1;read 1 1;} = 4
            alike(0, 1) = false
            work{wipe 0;wipe 1;lay 1 7 0;} = 3
            alike(0, 1) = false
            work{read 3 0;read 4 0;} = 2
            alike(3, 4) = true
            work{tear 0;tear 1;} = 2
            alike(0, 0) = false
            alike(0, 1) = false
            alike(0, 5) throws NoSuchElementException
            alike(-1, 0) throws NoSuchElementException
            """);
    }

    private static void liarReachRoom() {
        check("34 to 36 liar, reach, room", HUT + """
            liar(300, 0) = 3
            liar(300, 1) = 300
            liar(0, 0) = 0
            liar(0, 1) = 0
            liar(0, 2) throws IllegalArgumentException
            liar(0, -1) throws IllegalArgumentException
            liar(-2147483648, 0) = 0
            liar(-2147483648, 1) = 2147483647
            reach(0) = 7
            reach(2) = 4
            reach(3) = 14
            reach(4) = 16
            reach(5) throws NoSuchElementException
            reach(-1) throws NoSuchElementException
            room() = 15
            work{read 0 1;tear 1;lay 2 9 2;} = 3
            room() = 15
            work{tune 0 1 0;tune 1 1 0;tune 2 5 1;tear 3;} = 4
            reach(0) = 7
            liar(7, 0) = 2
            liar(7, 1) = 28
            """);
        check("34 all jam", "hut{pen 0 1 0;pen 4 1 0;} = 2\nliar(3, 0) = -1\nliar(3, 1) = -1\n");
        check("35 wires against their order", """
            hut{pen 0 1 1;pen 0 1 1;pen 0 1 1;pen 0 1 1;wire 2 3;wire 1 2;wire 0 1;wire 3 0;} = 4
            reach(0) = 15
            reach(2) = 15
            """);
    }

    /** From the SEED 0 on 0, 21468, 9988 and 22117 are drawn; from the SEED 3 on 17747, 7107; from -1 on 15929, 4409. */
    private static void seasons() {
        check("37 season", """
            hut{pen 3 1 1;pen 3 1 2;wire 0 1;sheet 2;} = 2
            season(0, 1, 0, 0) = 1
            season(0, 1, 0, 1) = 0
            season(0, 1, 0, 2) = 0
            season(0, 1, 4, 0) = 1
            season(0, 1, 5, 0) = 2
            season(0, 1, 5, 1) = 1
            season(0, 1, 5, 2) = 0
            law{in % 999 - 420} = 1
            season(0, 1, 0, 1) = 0
            law{in % 999 - 419} = 1
            season(0, 1, 0, 1) = 1
            told(5) = 0
            told(6) = 0
            told(2) = 0
            season(0, 0, 0, 0) throws IllegalArgumentException
            season(0, 97, 0, 0) throws IllegalArgumentException
            season(0, 1, -1, 0) throws IllegalArgumentException
            season(0, 1, 17, 0) throws IllegalArgumentException
            season(0, 1, 0, 3) throws IllegalArgumentException
            season(0, 1, 0, -1) throws IllegalArgumentException
            work{read 0 1;read 0 2;tear 1;} = 3
            season(0, 1, 16, 0) = 0
            season(0, 1, 0, 2) = 1
            told(4) = 2
            law{99} = 1
            work{wipe 0;read 0 1;} = 2
            told(5) = 1
            season(0, 1, 0, 0) = 1
            season(0, 1, 0, 1) = 1
            season(0, 1, 0, 2) = 1
            """);
        check("37 without wires nothing more is drawn", """
            hut{pen 3 1 1;} = 1
            law{in % 999 - 69} = 1
            season(0, 2, 16, 0) = 2
            season(0, 2, 16, 1) = 2
            law{in % 999 - 70} = 1
            season(0, 2, 16, 1) = 1
            season(0, 96, 0, 0) = 96
            law{most[60 - day,10]} = 1
            season(0, 96, 0, 1) = 11
            """);
        check("38 span", """
            hut{pen 3 1 1;pen 3 1 2;wire 0 1;sheet 2;} = 2
            law{in % 999 - 419} = 1
            span(0, 1, 1, 0, 0, 0) = 1
            span(0, 1, 1, 0, 1, 1) = 1
            span(0, 3, 1, 0, 0, 0) = 1
            span(0, 4, 1, 0, 0, 0) = 0
            span(0, 20, 1, 0, 1, 0) = 1
            span(0, 20, 1, 0, 0, 0) = 0
            span(0, 1, 1, 0, 2, 0) = 0
            work{read 0 1;read 0 1;} = 2
            span(7, 20, 1, 0, 2, 0) = 20
            span(7, 20, 2, 0, 2, 1) = 0
            span(-1, 2, 1, 0, 1, 0) = 0
            span(0, 0, 1, 0, 0, 0) throws IllegalArgumentException
            span(0, 21, 1, 0, 0, 0) throws IllegalArgumentException
            span(0, 1, 0, 0, 0, 0) throws IllegalArgumentException
            span(0, 1, 97, 0, 0, 0) throws IllegalArgumentException
            span(0, 1, 1, -1, 0, 0) throws IllegalArgumentException
            span(0, 1, 1, 17, 0, 0) throws IllegalArgumentException
            span(0, 1, 1, 0, 3, 0) throws IllegalArgumentException
            span(0, 1, 1, 0, -1, 0) throws IllegalArgumentException
            span(0, 1, 1, 0, 0, 2) throws IllegalArgumentException
            span(0, 1, 1, 0, 2, -1) throws IllegalArgumentException
            told(5) = 0
            told(4) = 2
            """);
    }

    private static void images() {
        check("39, 40 images", HUT + """
            restore() = -1
            work{read 0 200;day;} = 2
            image() = 1
            work{tune 0 9 9;tear 1;read 0 200;} = 3
            work{day;} = 1
            image() = 2
            work{lay 1 5 0;read 1 1;} = 2
            image() = 3
            image() = -1
            count(0) = 3
            law{33} = 1
            chain{0;} = 1
            undo() = 3
            undo() = 2
            undo() = 1
            restore() = 2
            count(2) = 4
            pen(1, 4) = 1
            restore() = 1
            count(2) = 3
            pen(1, 3) = -1
            told(2) = 2
            undo() = 2
            told(2) = 1
            work{wipe 0;} = 1
            restore() = 0
            count(2) = 1
            pen(0, 1) = 1
            told(2) = 1
            told(3) = 31
            told(4) = 0
            told(5) = 1
            told(6) = 1
            undo() = 0
            told(2) = 0
            told(6) = 0
            undo() = -1
            restore() = -1
            level(0, 0) = 33
            told(7) = 1
            """);
        check("39 works of an image", HUT + """
            work{read 0 1;} = 1
            work{read 0 2;} = 1
            work{read 0 3;} = 1
            image() = 1
            undo() = 2
            undo() = 1
            undo() = 0
            work{tear 0;} = 1
            work{tune 0 7 7;} = 1
            work{read 2 7;} = 1
            restore() = 0
            total(0) = 6
            undo() = 2
            total(0) = 3
            pen(0, 1) = 1
            undo() = 1
            total(0) = 1
            pen(2, 4) = 0
            undo() = 0
            pen(0, 4) = 0
            pen(0, 3) = 3
            """);
        check("3 a smaller hut behind a greater one", HUT + HUT + """
            hut{pen 0 5 1;pen 0 1 1;wire 0 1;sheet 2;} = 2
            hut{pen 0 5 1;pen 0 1 1;wire 1 0;sheet 2;} = 2
            told(3) = 3
            told(10) = 0
            pen(0, 5) = 0
            pen(0, 6) = 2
            pen(1, 6) = 0
            wire(1, 0) throws NoSuchElementException
            pen(2, 0) throws NoSuchElementException
            reach(0) = 1
            reach(1) = 3
            ready(1) = 3
            room() = 4
            fits() = 3
            liar(300, 0) = 0
            liar(300, 1) = 336
            look(0) = 1
            best(1, 0, 1, 1) = 2
            season(0, 20, 16, 2) = 0
            hut{} = 0
            season(0, 20, 16, 0) = 0
            liar(5, 0) = -1
            ready(5) = 0
            room() = 0
            """);
        check("40 what restore leaves", HUT + """
            image() = 1
            work{read 4 1;} = 0
            out(9, 9) throws NoSuchElementException
            tape{x}
            restore() = 0
            told(9) = 0
            count(1) = 20
            count(2) = 0
            status(0) = 1
            """);
    }

    private static void statusAndCount() {
        check("41 status", HUT + """
            out(9, 0) throws NoSuchElementException
            wire(9, 0) throws NoSuchElementException
            told(99) throws IllegalArgumentException
            hut(1) throws IllegalArgumentException
            span(0, 1, 1, 0, 0, 9) throws IllegalArgumentException
            out(4, 0) throws ArithmeticException
            record(0, 0) throws IndexOutOfBoundsException
            latest(0) throws IndexOutOfBoundsException
            work{tear 0;} = 1
            latest(0) throws NullPointerException
            status(0) = 2
            status(1) = 3
            status(2) = 1
            status(3) = 2
            status(4) = 1
            status(5) = -1
            status(-1) = -1
            hut{} = 0
            status(0) = 2
            """);
        check("42 count", """
            count(0) = 0
            tape{x}
            count(1) = 20
            hut(0) = 0
            count(1) = 0
            work{} = 0
            image() = 1
            count(0) = 1
            count(2) = 1
            undo() = 0
            count(2) = 0
            count(3) = -1
            count(-1) = -1
            """);
    }
}
