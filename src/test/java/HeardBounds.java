/** Promises 21 to 24, and what the document says of what was HEARD. */
final class HeardBounds {
    private final Sheet sheet;

    HeardBounds(Sheet sheet) {
        this.sheet = sheet;
    }

    void test() {
        fourAtMost();
        forgotten();
        worths();
        worthsBounds();
        asking();
        noneToAsk();
    }

    private void fourAtMost() {
        sheet.says("HEARD (4 at most): a letter of unknown WORTH: a JUDGE was for it (1), or not (0).");
        Desk d = sheet.told("j10;j20;").run("count(5)=0 hears(0, 1)=1 hears(0, 1)=2 hears(1, 0)=3 count(5)=3 hears(1, 0)=4 count(5)=4");
        d.run("hears(0, 1)=FULL hears(0, 0)=FULL hears(1, 1)=FULL count(5)=4 worths(0)=10 worths(1)=10 worths(2)=19");
        sheet.says("HEARD: how much there is. BAD; FULL.");
        d.run("hears(2, 1)=BAD hears(-1, 1)=BAD hears(0, 2)=BAD hears(0, -1)=BAD hears(2, 2)=BAD count(5)=4");
        Desk e = sheet.told("j10;j20;j30;").run("hears(-1, 0)=BAD hears(3, 0)=BAD hears(MIN, 0)=BAD hears(MAX, 0)=BAD hears(0, -1)=BAD hears(0, 2)=BAD");
        e.run("hears(0, MIN)=BAD hears(0, MAX)=BAD count(5)=0 hears(2, 0)=1 hears(0, 0)=2");
        sheet.desk().run("hears(0, 0)=BAD hears(0, 1)=BAD count(5)=0");
        sheet.told("j10;b0 0 5;").run("hears(0, 1)=1 prompts(0) undo()=0 count(5)=1 keep(0) hears(0, 1)=2 back(0) count(5)=2");
    }

    private void forgotten() {
        sheet.says("Nothing was HEARD: how much was.");
        Desk d = sheet.told("j10;").run("forget()=0 hears(0, 1)=1 forget()=1 forget()=0 count(5)=0 worths(0)=31");
        d.times(4, "hears(0, 0)").run("hears(0, 0)=FULL forget()=4 hears(0, 1)=1 worths(0)=21 worths(1)=10");
        sheet.desk().run("forget()=0");
        sheet.told("j10;").run("hears(0, 1)=1").types("j10;").run("chapter()=1 forget()=0 worths(0)=31");
        sheet.told("j10;").run("hears(0, 1)=1").types("j").run("chapter()=-11 forget()=1");
    }

    private void worths() {
        sheet.says("WORTHS (0 .. 30) by which all that was HEARD is so: how many; the least; the greatest; NONE.");
        for (int ear = 0; ear <= 30; ear++) {
            Desk d = sheet.told("j" + ear + ";").run("worths(0)=31 worths(1)=0 worths(2)=30 hears(0, 1)=1");
            d.run("worths(0)=" + (31 - ear) + " worths(1)=" + ear + " worths(2)=30 forget()=1 hears(0, 0)=1");
            d.run("worths(0)=" + ear + " worths(1)=" + (ear == 0 ? "NONE" : "0") + " worths(2)=" + (ear == 0 ? "NONE" : ear - 1));
            d.run("hears(0, 1)=2 worths(0)=0 worths(1)=NONE worths(2)=NONE");
        }
        sheet.told("j10;j11;").run("hears(0, 1) hears(1, 0) worths(0)=1 worths(1)=10 worths(2)=10");
        sheet.told("j10;j12;").run("hears(0, 1) hears(1, 0) worths(0)=2 worths(1)=10 worths(2)=11");
        sheet.told("j10;j11;").run("hears(0, 0) hears(1, 1) worths(0)=0 worths(1)=NONE worths(2)=NONE");
        sheet.told("j10;j10;").run("hears(0, 0) hears(1, 1) worths(0)=0");
        sheet.told("j5;j15;j25;").run("hears(0, 1) hears(2, 0) hears(1, 1) worths(0)=10 worths(1)=15 worths(2)=24 hears(1, 1)=4 worths(0)=10");
    }

    private void worthsBounds() {
        sheet.says("WORTHS: how many (what = 0), the least (1), the greatest (2); NONE (what 1, 2). BAD.");
        sheet.desk().run("worths(0)=31 worths(1)=0 worths(2)=30 worths(-1)=BAD worths(3)=BAD worths(MIN)=BAD worths(MAX)=BAD");
        sheet.told("j0;").run("hears(0, 0) worths(0)=0 worths(1)=NONE worths(2)=NONE worths(3)=BAD worths(-1)=BAD");
    }

    private void asking() {
        sheet.says("ASK: the JUDGE by whom, for it or not, the greater part of WORTHS is least, of several the lowest");
        for (int one = 0; one <= 30; one++) {
            for (int two = 0; two <= 30; two++) {
                int first = Math.max(one, 31 - one);
                int second = Math.max(two, 31 - two);
                String due = one == 0 && two == 0 ? "NONE" : first <= second ? "0" : "1";
                sheet.told("j" + one + ";j" + two + ";").run("ask()=" + due);
            }
        }
        sheet.told("j16;j15;j15;").run("ask()=0");
        sheet.told("j1;j30;j15;").run("ask()=2");
        sheet.told("j1;j30;").run("ask()=0");
        sheet.told("j20;j10;j15;").run("hears(2, 1) ask()=0 hears(0, 0) worths(0)=5 ask()=NONE");
        sheet.told("j20;j10;j15;").run("hears(2, 0) ask()=1 hears(1, 0) worths(0)=10 ask()=NONE");
        sheet.told("j12;j11;j10;").run("hears(2, 1) hears(0, 0) worths(0)=2 ask()=1 hears(1, 1) worths(0)=1 ask()=NONE");
    }

    private void noneToAsk() {
        sheet.says("; NONE (fewer than 2, none parts them).");
        sheet.told("j0;").run("ask()=NONE hears(0, 0) worths(0)=0 ask()=NONE");
        sheet.told("j1;").run("ask()=0 hears(0, 0) worths(0)=1 ask()=NONE forget() hears(0, 1) worths(0)=30 ask()=NONE");
        sheet.told("j30;").run("ask()=0 hears(0, 1) worths(0)=1 ask()=NONE");
        sheet.told("j2;j1;").run("hears(0, 0) worths(0)=2 ask()=1 hears(1, 0) worths(0)=1 ask()=NONE");
        sheet.told("j29;j30;").run("hears(0, 1) worths(0)=2 ask()=1 hears(1, 1) worths(0)=1 ask()=NONE");
        sheet.told("j5;j7;").run("hears(0, 0) hears(0, 1) worths(0)=0 ask()=NONE");
        sheet.says("ASK; NONE.");
        sheet.desk().run("ask()=NONE worths(0)=31");
        sheet.told("b0 0 0;").run("ask()=NONE");
    }
}
