/** The promises 1 to 38 and the constants: what each call answers, and what it can't answer. */
final class SentencesOfCalls {
    private SentencesOfCalls() {
    }

    static void all() {
        told();
        tape();
        money();
        books();
        rings();
        chains();
        signs();
        theEnd();
        payments();
        rest();
    }

    private static void says(String quote, Runnable test) {
        Sentences.says(quote, test);
    }

    private static void told() {
        says("The constants: `NONE = -1`: None.", () -> {
            if (NowhereMoney.NONE != -1) {
                Sentences.fails("NONE is " + NowhereMoney.NONE);
            }
        });
        says("No CHEQUES, DAY 0.", () -> {
            Run x = new Run().row("look", 0, 0, 0, 0, 1, 0, 0).row("sums", 0, 0, 0, 0, 0).row("fault", 0, -1);
            x.is("cheque 0 0", Run.NO_CHEQUE).is("entry 0 0", Run.NO).is("kept 0 0 0", Run.NO).is("alone 0 0", -1);
            x.no("image false").no("end 1").yes("town 3 2").row("really 5", 0, 0, 0).row("book 5 3", 0, 0, 0, 0);
            x.is("snowed", -1).is("ending -1 0", 0).is("seen 1", -1).is("cries 15 0", 0).is("payFloat 0 0", 0);
        });
        says("TOWN of a BANK: true; false if one can't be, or there are CHEQUES.", () -> {
            Run x = new Run().yes("town 0 0").yes("town 3 2").yes("town 1 1").yes("image true");
            x.outside("town ? 1", 0, 3, 0).outside("town 1 ?", 0, 2, 0).no("town -1 -1").is("flight 0 3 0", 2);
            x.is("pay 0 0 1 1 5", 0).no("town 0 0").no("town 0 1").no("town 2 2").is("flight 0 2 0", 1);
            // a cheque that is paid long since hinders it, too; gone back to where there was none, it can be told
            x.days(9).no("town 0 1").yes("image false").yes("town 0 1").is("flight 0 2 0", 2);
        });
        says("RAIL between two unlike TOWNS: true; false if one can't be.", () -> {
            Run x = Run.apart().yes("rail 0 1 0").yes("rail 2 1 5").yes("rail 0 2 1").outside("rail ? 1 3", 0, 2, 0);
            x.outside("rail 1 ? 3", 0, 2, 0).outside("rail 0 1 ?", 0, 5, 0);
            for (int town = 0; town < 3; town++) {
                x.no("rail " + town + " " + town + " 0").no("rail " + town + " " + town + " 2");
            }
            x.is("flight 0 1 0", 1).is("flight 1 2 0", 5).is("flight 2 0 0", 1).is("flight 0 3 0", 1);
            x.is("pay 0 0 1 1 5", 0).yes("rail 1 0 4").is("flight 0 1 0", 4);
        });
        says("What 0 CLOSED, 1 SNOW of a DAY behind NOW: true; false if one can't be, or another what.", () -> {
            Run x = Run.apart().no("told 0 0 true").no("told 1 0 true").yes("told 0 1 true").yes("told 1 89 true");
            x.no("told 0 90 true").no("told 1 90 true").no("told 0 -1 true").no("told 0 least true");
            x.no("told 1 greatest true").outside("told ? 5 true", 0, 1, 0).outside("told ? 5 false", 0, 1, 0);
            x.is("flight 0 0 4", 1).is("flight 0 0 0", 2).is("flight 0 1 0", 2).is("flight 0 0 1", -1);
            x.yes("told 1 1 true").is("flight 0 1 0", 3).yes("told 1 1 false").yes("told 1 1 false");
            x.is("flight 0 1 0", 2).days(3).no("told 0 3 true").no("told 0 1 false").no("told 1 2 true");
            x.yes("told 0 4 true").is("flight 0 0 3", 2).is("flight 0 0 1", -1).yes("told 0 4 false");
            x.is("flight 0 0 3", 1).days(86).no("told 0 89 false").no("told 0 90 true");
        });
    }

    private static void tape() {
        says("Twenty bytes come behind the TAPE, of each number the highest first: how many it has.", () -> {
            // "fee 7;fee 8 when 1=1;" is 21 bytes long
            Run x = new Run().is("feed 1717921056 926639717 1696610336 2003330414 540097841", 20).is("text 0", -1);
            x.is("fault 1", 20).is("feed 1717921056 926639717 1696610336 2003330414 540097841", 20);
            x.is("feed 991961120 538976288 538976288 538976288 538976288", 40).is("text 0", 2);
            // bytes above 127, and the place of each
            for (int i = 0; i < 20; i++) {
                StringBuilder call = new StringBuilder("feed");
                for (int n = 0; n < 5; n++) {
                    int v = 0x20202020;
                    call.append(' ').append(i / 4 == n ? v | 0xff << (24 - i % 4 * 8) : v);
                }
                x.is(call.toString(), 20).is("text 0", -1).row("fault", 1, i);
            }
        });
        says("NONE, and nothing comes, if there would be more than 400.", () -> {
            Run x = new Run();
            for (int n = 20; n <= 400; n += 20) {
                x.is("feed 538976288 538976288 538976288 538976288 538976288", n);
            }
            x.is("feed 0 0 0 0 0", -1).no("end 401").yes("end 400").yes("end 381").is("feed 0 0 0 0 0", -1);
            x.no("end 382").yes("end 380").is("feed 1 2 3 4 5", 400).is("feed 1 2 3 4 5", -1).yes("end 380");
            x.is("text 0", 0).is("feed 1 2 3 4 5", 20);
        });
        says("The TAPE has its first n bytes alone: true; false, changing nothing, if it has not so many, or n is below "
            + "0.", () -> {
                Run x = new Run().yes("end 0").no("end 1").tape("hold 1;limit 5;fee 9").yes("end 20").no("end 21");
                x.no("end -1").no("end least").no("end greatest").yes("end 20").yes("end 15").no("end 16").yes("end 7");
                x.no("end 8").yes("end 7").is("text 0", 1).no("end 1").yes("end 0");
                x.tape("hold 1;fee 2;").yes("end 0").no("end 1").is("text 1", 0);
                // what comes then stands behind those
                x.tape("hold 1;xyz").yes("end 7").is("feed 1717921056 926621728 538976288 538976288 538976288", 27);
                x.is("text 0", 2);
            });
        says("The TAPE, empty then, is a BANK's LAW (k 0 .. 3) or SIGNS (4): how many lines.", () -> {
            Run x = new Run();
            for (int k = 0; k < 4; k++) {
                x.text(k, "hold 1;fee 2;", 2).no("end 1").yes("end 0").text(k, "cry when 1=1;", -1);
            }
            x.text(4, "cry when 1=1;", 1).no("end 1").text(4, "hold 1;", -1).text(4, "", 0).text(0, "", 0);
            x.text(2, "hold 1;hold 1;fee 1;fee 1;limit 1;limit 1;hold 2;hold 2;fee 1;fee 1;fee 1;fee 1;", 12);
            // each bank's own
            Run y = new Run();
            for (int bank = 0; bank < 4; bank++) {
                y.law(bank, "limit " + (bank + 5) + ";");
            }
            for (int bank = 0; bank < 4; bank++) {
                y.no("cash 0 " + bank + " -" + (bank + 6)).yes("cash 0 " + bank + " -" + (bank + 5));
            }
        });
        says("NONE: no such one (fault() tells 0), or a FAULT (the TEXT stays as it was; the TAPE is empty in each "
            + "case).", () -> {
                Run x = new Run().law(0, "hold 7;").law(4, "cry when 1=1;").text(0, "hold 9;hold 1", -1).no("end 1");
                x.row("fault", 1, 13).is("pay 0 0 0 0 10", 0).is("cheque 0 8", 7).text(4, "cry when 1=2", -1);
                x.is("sign 0 1 7", 1).row("fault", 1, 12);
                for (String k : new String[] {"-1", "5", "least", "greatest"}) {
                    x.text(0, "hold 1/0;", -1).row("fault", 2, 7).tape("hold 1;").is("text " + k, -1).row("fault", 0, -1);
                    x.no("end 1").is("pay 0 0 0 0 10", x.answer("look 1"));
                    x.is("cheque " + (x.answer("look 1") - 1) + " 8", 7);
                }
                x.tape("hold x").is("text 9", -1).row("fault", 0, -1).text(0, "", 0).is("sign 0 1 7", 1);
            });
        says("Of the latest text(): what 0 the FAULT (0 without one), 1 its place (NONE).", () -> {
            Run x = new Run().row("fault", 0, -1, -1).text(0, "hold 1/0;", -1).row("fault", 2, 7, -1);
            x.text(1, "fee;", -1).row("fault", 1, 3).text(4, "cry when (((((((((", -1).row("fault", 3, 17);
            x.does("day", "cash 0 0 5", "end 0", "feed 1 2 3 4 5", "image true", "image false").row("fault", 3, 17, -1);
            x.yes("end 0").text(2, "fee 1;", 1).row("fault", 0, -1);
        });
        says("NONE for another what.", () -> {
            Run x = new Run().outside("fault ?", 0, 1, -1).text(0, "hold 1/0;", -1).outside("fault ?", 0, 1, -1);
        });
    }

    private static void money() {
        says("CASH is paid in (v above 0, 999999 at most) or drawn (below 0, -999999 at least; USABLE and LIMIT are not "
            + "below it): true; false if one can't be, NOW is not of BUSINESS, or there is not as much.", () -> {
                Run x = new Run().yes("cash 5 3 999999").no("cash 5 3 1000000").no("cash 5 3 0").yes("cash 5 3 -999999");
                x.no("cash 5 3 -1").no("cash 5 3 greatest").no("cash 5 3 least").yes("cash 5 3 1").yes("cash 5 3 -1");
                x.does("cash 1 1 999999", "cash 1 1 999999").mark().no("cash 1 1 -1000000").no("cash 1 1 least");
                x.outside("cash ? 0 1", 0, 5, 0).outside("cash 0 ? 1", 0, 3, 0).outside("cash ? 0 -1", 0, 5, 0).unchanged();
                // what is held can't be drawn, up to the limit below nothing
                Run y = new Run().law(1, "hold 2;limit 30;").does("cash 2 1 100", "pay 0 0 2 1 50").no("cash 2 1 -131");
                y.yes("cash 2 1 -130").no("cash 2 1 -1").is("book 2 1 0", 20).is("book 2 1 1", -30).is("sums 2", -30);
                y.does("told 0 1 true").days(1).no("cash 2 1 5").no("cash 3 1 -5").days(1).yes("cash 3 1 -5");
                y.days(4).is("look 0", 6).no("cash 2 1 5").no("cash 3 1 -5").days(1).yes("cash 2 1 5");
            });
        says("A CHEQUE is paid in: its number; NONE if one can't be, NOW is not of BUSINESS, or there are 150.", () -> {
            Run x = new Run().does("told 0 1 true").is("pay 0 0 0 0 1", 0).is("pay 5 3 5 3 99999", 1).mark();
            x.outside("pay ? 0 0 0 1", 0, 5, -1).outside("pay 0 ? 0 0 1", 0, 3, -1).outside("pay 0 0 ? 0 1", 0, 5, -1);
            x.outside("pay 0 0 0 ? 1", 0, 3, -1).outside("pay 0 0 0 0 ?", 1, 99999, -1).unchanged();
            x.days(1).mark().is("pay 0 0 0 0 1", -1).unchanged().days(5).is("pay 0 0 0 0 1", -1).days(1);
            for (int k = 2; k < 150; k++) {
                x.is("pay 1 2 3 3 1", k);
            }
            x.mark().is("pay 1 2 3 3 1", -1).is("pay 0 0 0 0 1", -1).unchanged().days(3).is("pay 0 0 0 0 1", -1);
        });
        says("The next DAY comes, with its MORNING: how many CHEQUES were returned; NONE if NOW is 89.", () -> {
            Run x = Run.apart().does("cash 0 0 10", "pay 0 0 1 3 10", "pay 0 0 1 3 11", "pay 0 0 1 1 12", "pay 1 2 0 2 9");
            // 10 is paid, 11 and 9 are returned; then 12 is, and those two come back
            x.is("day", 2).is("look 0", 1).is("day", 1).is("cheque 1 6", 3).is("day", 0).is("day", 0).is("look 0", 4);
            x.does("pay 0 0 1 3 5").days(1).does("pay 0 0 1 3 5").is("day", 0).is("look 0", 6).is("day", 1).days(82);
            x.is("look 0", 89).mark().is("day", -1).unchanged().is("day", -1);
        });
    }

    private static void books() {
        says("Of a HOUSE at a BANK what 0 BOOK, 1 USABLE, 2 HELD, 3 how many CHEQUES it paid in there in the last seven "
            + "DAYS.", () -> {
                Run x = new Run().law(2, "hold 3;").does("cash 4 2 70", "cash 1 0 200", "pay 1 0 4 2 200", "pay 1 0 4 2 9");
                x.row("book 4 2", 279, 70, 209, 2).row("book 4 1", 0, 0, 0, 0).row("book 1 0", 200, 200, 0, 0);
                // 9 is returned, but still held; come back it is held no more, and counted still
                x.days(1).row("book 4 2", 279, 70, 209, 2).days(1).row("book 4 2", 270, 70, 200, 2).days(1);
                x.row("book 4 2", 270, 270, 0, 2).does("pay 1 0 4 2 5").row("book 4 2", 275, 270, 5, 3).days(3);
                x.is("look 0", 6).is("book 4 2 3", 3).days(1).is("book 4 2 3", 1).days(2).is("book 4 2 3", 1);
                x.days(1).is("look 0", 10).is("book 4 2 3", 0);
            });
        says("NONE - 99999999 if one can't be, or another what.", () -> {
            new Run().outside("book ? 0 0", 0, 5, Run.NO).outside("book 0 ? 0", 0, 3, Run.NO)
                .outside("book 0 0 ?", 0, 3, Run.NO).row("book 5 3", 0, 0, 0, 0);
        });
        says("Of CHEQUE k what 0 who drew it, 1 ON, 2 who paid it in, 3 AT, 4 amount, 5 its DAY, 6 0 on its WAY, 1 PAID, "
            + "2 GOING BACK, 3 come back, 7 TRAINS that it needs, 8 HOLD, 9 the DAY on which it was PAID or returned "
            + "(NONE).", () -> {
                Run x = Run.apart().law(1, "hold 4;").days(1).does("cash 2 0 77", "pay 2 0 3 1 77", "pay 2 0 3 1 78");
                x.row("cheque 0", 2, 0, 3, 1, 77, 1, 0, 2, 4, -1).row("cheque 1", 2, 0, 3, 1, 78, 1, 0, 2, 4, -1).days(1);
                x.row("cheque 0", 2, 0, 3, 1, 77, 1, 0, 1, 4, -1).days(1);
                x.row("cheque 0", 2, 0, 3, 1, 77, 1, 1, 0, 4, 3).row("cheque 1", 2, 0, 3, 1, 78, 1, 2, 2, 4, 3).days(1);
                x.row("cheque 1", 2, 0, 3, 1, 78, 1, 2, 1, 4, 3).days(1).row("cheque 1", 2, 0, 3, 1, 78, 1, 3, 0, 4, 3);
                x.days(5).row("cheque 0", 2, 0, 3, 1, 77, 1, 1, 0, 4, 3).row("cheque 1", 2, 0, 3, 1, 78, 1, 3, 0, 4, 3);
            });
        says("NONE - 1 if there is none such, or another what.", () -> {
            Run x = new Run().is("cheque 0 0", Run.NO_CHEQUE).does("pay 0 0 1 1 5", "pay 0 0 1 1 5");
            x.outside("cheque ? 0", 0, 1, Run.NO_CHEQUE).outside("cheque 1 ?", 0, 9, Run.NO_CHEQUE);
            x.outside("cheque 150 ?", 0, 9, Run.NO_CHEQUE).is("cheque 149 0", Run.NO_CHEQUE);
        });
        says("Of a HOUSE NOW what 0 BOOKS, 1 REAL, 2 WATER.", () -> {
            Run x = Run.apart().does("cash 0 3 40", "pay 0 0 1 1 100", "pay 1 1 0 3 30");
            x.row("really 0", 70, -30, 100).row("really 1", 100, 70, 30).row("really 5", 0, 0, 0).days(2);
            x.row("really 0", 70, 70, 0).row("really 1", 70, -30, 100).days(2).row("really 1", -30, -30, 0);
        });
        says("NONE - 99999999 if one can't be, or another what.", () -> {
            new Run().outside("really ? 0", 0, 5, Run.NO).outside("really 0 ?", 0, 2, Run.NO);
        });
        says("KEPT of a DAY of a HOUSE what 0 BOOKS, 1 REAL, 2 + b BOOK at BANK b.", () -> {
            Run x = Run.apart().does("cash 0 0 50", "cash 0 1 7", "pay 0 0 0 2 30", "cash 5 3 4").days(1).does("cash 0 0 5");
            x.row("kept 1 0", 87, 57, 50, 7, 30, 0).row("kept 1 5", 4, 4, 0, 0, 0, 4).days(1);
            x.row("kept 2 0", 62, 62, 25, 7, 30, 0).row("kept 1 0", 87, 57, 50, 7, 30, 0);
        });
        says("NONE - 99999999 if it is not KEPT, one can't be, or another what.", () -> {
            Run x = new Run().is("kept 0 0 0", Run.NO).is("kept 1 0 0", Run.NO).days(3).is("kept 3 0 0", 0);
            x.outside("kept ? 0 0", 1, 3, Run.NO).outside("kept 1 ? 0", 0, 5, Run.NO).outside("kept 1 0 ?", 0, 5, Run.NO);
            x.is("kept 1 5 5", 0).days(86).is("kept 89 0 0", 0).outside("kept ? 0 0", 1, 89, Run.NO).is("kept 90 5 5", Run.NO);
        });
        says("What 0 all BOOKS, 1 all in FLIGHT, 2 CASH, 3 FEES, 4 how many CHEQUES are in FLIGHT.", () -> {
            Run x = Run.apart().law(0, "fee 7;").does("cash 0 0 500", "cash 0 0 -20", "cash 4 2 1", "pay 0 0 1 1 400");
            x.does("pay 0 0 1 1 300", "pay 0 0 1 3 50").row("sums", 1231, 750, 481, 0, 3).days(1);
            x.row("sums", 1181, 700, 481, 0, 2).days(1).row("sums", 774, 300, 481, 7, 1).days(2);
            x.row("sums", 474, 0, 481, 7, 0);
        });
        says("NONE for another what.", () -> {
            new Run().does("cash 0 0 5").outside("sums ?", 0, 4, -1);
        });
    }

    private static void rings() {
        says("FLIGHT AT a BANK, ON a BANK, of a DAY of BUSINESS; NONE if one can't be (or it is none).", () -> {
            Run x = Run.apart().does("rail 0 1 3", "told 0 8 true").is("flight 0 1 0", 3).is("flight 1 2 0", 2);
            x.is("flight 0 0 8", -1).is("flight 0 0 6", -1).is("flight 0 0 13", -1).is("flight 0 0 7", 2);
            x.is("flight 0 0 83", -1).is("flight 0 0 89", 2).is("flight 0 0 90", -1).is("flight 0 0 91", -1);
            x.outside("flight ? 0 0", 0, 3, -1).outside("flight 0 ? 0", 0, 3, -1).outside("flight 0 0 ?", 0, 89, -1);
            // of a day that is over, too
            x.days(10).is("flight 0 1 0", 3).is("flight 0 0 8", -1).is("flight 0 0 7", 2);
        });
        says("MOST of k BANKS for an amount (1 .. 9999) on a DAY of BUSINESS: what 0 what it HOLDS UP, 1 the RING (its "
            + "BANKS as the figures of a number, the first one highest).", () -> {
                Run x = Run.apart().is("ring 2 1 0 0", 4).is("ring 2 9999 0 0", 39996).is("ring 2 1 0 1", 1);
                x.is("ring 3 1 0 0", 6).is("ring 3 1 0 1", 12).is("ring 4 1 0 0", 8).is("ring 4 1 0 1", 132);
                x.is("ring 2 7 5 0", 28).is("ring 2 7 4 0", 42).is("ring 2 7 89 0", 28);
                // the first bank is the highest figure
                Run y = new Run().yes("town 3 1").is("ring 2 1 0 1", 3).law(0, "hold 9;").is("ring 2 1 0 1", 13);
                y.law(3, "hold 9;").law(2, "hold 9;").is("ring 4 1 0 0", 2).is("ring 4 1 0 1", 231);
            });
        says("NONE if one can't be, or another what.", () -> {
            Run x = new Run().does("told 0 3 true").outside("ring ? 5 0 0", 2, 4, -1).outside("ring 2 ? 0 0", 1, 9999, -1);
            x.outside("ring 2 5 ? 0", 0, 89, -1).outside("ring 2 5 0 ?", 0, 1, -1).is("ring 2 5 6 0", -1);
            x.is("ring 2 5 3 0", -1).is("ring 2 5 3 1", -1).outside("ring ? 5 0 1", 2, 4, -1);
            x.outside("ring 2 ? 0 1", 1, 9999, -1);
        });
        says("LET IN by a HOLD 0 .. 20 (else as for ring()): what it HOLDS UP; NONE if one can't be.", () -> {
            Run x = Run.apart().law(0, "hold 20;").does("told 0 3 true").is("letIn 2 9999 0 0", 39996);
            x.is("letIn 4 10 0 1", 40).is("letIn 3 10 0 1", 30).is("letIn 2 10 0 2", 0).is("letIn 2 10 0 20", 0);
            x.outside("letIn 2 10 0 ?", 0, 20, -1).outside("letIn ? 10 0 0", 2, 4, -1).outside("letIn 2 ? 0 0", 1, 9999, -1);
            x.outside("letIn 2 10 ? 0", 0, 89, -1).is("letIn 2 10 6 0", -1).is("letIn 2 10 3 0", -1);
            for (int day = 4; day < 50; day++) {
                x.does("told 1 " + day + " true");
            }
            // one train on the closed day 3, the other one on 50: 48 days less those of the hold
            x.is("letIn 2 10 2 20", 2 * 10 * 28).is("letIn 2 10 2 19", 2 * 10 * 29);
        });
        says("LEAST HOLD of k BANKS on a DAY of BUSINESS, of a kind 0 .. 2; NONE if one can't be.", () -> {
            Run x = Run.apart().does("told 0 3 true").row("leastHold 2 0", 2, 1, 2, -1).row("leastHold 4 2", 2, 2, 2, -1);
            x.row("leastHold 3 4", 3, 1, 3, -1).row("leastHold 3 5", 2, 2, 2).row("leastHold 3 89", 2, 2, 2);
            x.outside("leastHold ? 0 0", 2, 4, -1).outside("leastHold 2 ? 0", 0, 89, -1).outside("leastHold 2 0 ?", 0, 2, -1);
            x.row("leastHold 2 6", -1, -1, -1).row("leastHold 2 3", -1, -1, -1);
        });
    }

    private static void chains() {
        says("Of CHEQUE k what 0 that on which it RESTS (NONE), of its CHAIN 1 LENGTH, 2 FIRST, 3 DAYS.", () -> {
            Run x = Run.apart().does("pay 0 1 0 0 10", "pay 0 1 0 0 20").days(1).does("pay 0 0 2 2 5", "pay 2 2 3 3 5");
            x.does("pay 3 0 3 3 5").row("chain 0", -1, 1, 0, 0).row("chain 2", 1, 2, 1, 1).row("chain 3", 2, 3, 1, 1);
            x.row("chain 4", -1, 1, 4, 0);
        });
        says("NONE - 1 if there is none such, or another what.", () -> {
            Run x = new Run().is("chain 0 0", Run.NO_CHEQUE).does("pay 0 0 1 1 5", "pay 0 0 1 1 5");
            x.outside("chain ? 0", 0, 1, Run.NO_CHEQUE).outside("chain ? 1", 0, 1, Run.NO_CHEQUE);
            x.outside("chain 1 ?", 0, 3, Run.NO_CHEQUE);
        });
        says("Of ENTRY i (from 0) what 0 DAY, 1 HOUSE, 2 BANK, 3 kind, 4 CHEQUE, 5 by how much, 6 BOOK behind it.", () -> {
            Run x = new Run().law(3, "fee 2;").days(1).does("cash 5 3 8", "pay 5 3 4 2 9").days(2);
            x.row("entry 0", 1, 5, 3, 0, -1, 8, 8).row("entry 1", 1, 4, 2, 1, 0, 9, 9).row("entry 2", 2, 5, 3, 3, 0, -2, 6);
            x.row("entry 3", 3, 4, 2, 4, 0, -9, 0).does("pay 5 3 4 2 6").days(1).row("entry 5", 4, 5, 3, 2, 1, -6, 0);
        });
        says("NONE - 99999999 if there is none such, or another what.", () -> {
            Run x = new Run().is("entry 0 0", Run.NO).does("cash 0 0 5", "cash 0 0 5");
            x.outside("entry ? 0", 0, 1, Run.NO).outside("entry 1 ?", 0, 6, Run.NO).is("entry 900 0", Run.NO);
        });
        says("GROWTH of w (0 .. 999999999); NONE if one can't be.", () -> {
            Run x = new Run().is("growth 0 500 60", 0).is("growth 999999999 0 0", 999999999).is("growth 4000 500 1", 6000);
            x.outside("growth ? 1 1", 0, 999999999, -1).outside("growth 5 ? 1", 0, 500, -1);
            x.outside("growth 5 1 ?", 0, 60, -1).is("growth 5 500 60", 999999999).is("growth 1000 1 60", 1060);
        });
    }

    private static void signs() {
        says("SIGNS of a HOUSE by a set of BANKS (1 .. 15) what 0 turn, 1 count, 2 round, 3 match, 4 book, 5 low, 6 far, "
            + "7 1 if it CRIES, else 0.", () -> {
                Run x = Run.apart().law(4, "cry when turn=310;").does("cash 5 3 98", "pay 5 3 1 1 98").days(2);
                x.does("pay 2 1 5 3 100", "pay 2 0 5 3 210", "cash 5 1 4", "pay 1 1 5 1 7");
                x.row("sign 5 8", 310, 2, 1, 1, 310, 0, 1, 1).row("sign 5 2", 7, 1, 0, 0, 11, 0, 0, 0);
                x.row("sign 5 15", 317, 3, 1, 1, 321, 0, 1, 0).row("sign 5 1", 0, 0, 0, 0, 0, 0, 0, 0);
                x.row("sign 1 2", 98, 1, 0, 0, 98, 98, 1, 0);
            });
        says("NONE - 99999999 if one can't be, or another what.", () -> {
            new Run().outside("sign ? 1 0", 0, 5, Run.NO).outside("sign 0 ? 0", 1, 15, Run.NO)
                .outside("sign 0 1 ?", 0, 7, Run.NO).is("sign 0 0 7", Run.NO).is("sign 6 1 7", Run.NO);
        });
        says("KITERS: true; false if they can't be (0 .. 63).", () -> {
            Run x = new Run().yes("kiters 63").yes("kiters 37").outside("kiters ?", 0, 63, 0).is("look 3", 37);
            x.yes("kiters 0").is("look 3", 0);
        });
        says("CRIES by a set of BANKS what 0 the set, 1 HITS, 2 FALSE, 3 MISSED, 4 SURE (NONE without CRIES).", () -> {
            Run x = new Run().law(4, "cry when turn>5;").yes("kiters 35").row("cries 15", 0, 0, 0, 3, -1);
            x.does("pay 0 0 1 1 6", "pay 0 0 2 1 6", "pay 0 0 3 1 6", "pay 0 0 5 1 6", "pay 0 0 0 1 5");
            x.row("cries 2", 46, 2, 2, 1, 500).row("cries 3", 46, 2, 2, 1, 500).row("cries 1", 0, 0, 0, 3, -1);
        });
        says("NONE if one can't be, or another what.", () -> {
            new Run().law(4, "cry when 1=1;").outside("cries ? 0", 1, 15, -1).outside("cries ? 4", 1, 15, -1)
                .outside("cries 1 ?", 0, 4, -1);
        });
        says("LIKE ONES of a HOUSE by a set of BANKS what 0 how many, 1 for how many it CRIES.", () -> {
            Run x = new Run().law(4, "cry when turn=20;").does("pay 0 0 1 3 10", "pay 0 0 2 3 20", "pay 0 0 3 3 5");
            x.does("pay 0 0 4 3 21", "pay 0 0 5 3 4").row("like 1 8", 2, 1).row("like 2 8", 2, 0).row("like 0 8", 0, 0);
            x.row("like 1 12", 2, 1).row("like 0 1", 5, 0).yes("kiters 4").row("like 1 8", 1, 0).row("like 2 8", 2, 0);
        });
        says("NONE if one can't be, or another what.", () -> {
            new Run().outside("like ? 1 0", 0, 5, -1).outside("like 0 ? 0", 1, 15, -1).outside("like 0 1 ?", 0, 1, -1);
        });
        says("ALONE of a HOUSE at a BANK; NONE if it never was, or one can't be.", () -> {
            Run x = new Run().law(4, "cry when book=5;").does("cash 5 3 5").is("alone 5 3", -1).days(1).is("alone 5 3", 1);
            x.is("alone 5 2", -1).is("alone 4 3", -1).does("cash 0 0 5", "cash 5 3 1").days(1).is("alone 0 0", 2);
            x.is("alone 5 3", 1).outside("alone ? 0", 0, 5, -1).outside("alone 0 ?", 0, 3, -1);
        });
    }

    private static void theEnd() {
        says("THE END by an ORDER: what 0 how many DAYS, 1 how many are returned, 2 LOSS of all, 10 + b LOSS of BANK b; "
            + "order NONE: BEST ORDER (whatever what).", () -> {
                Run x = Run.apart().law(0, "fee 5 when amount=8;").law(1, "fee 30;").does("cash 1 0 9", "pay 1 0 2 1 9", "pay 1 0 2 1 8");
                x.does("pay 3 1 2 3 7", "cash 2 1 -17", "cash 2 3 -7");
                // asked for on day 2, back on day 4 (bank 3 on day 4, too)
                int[] loss = {50, 50, 46, 50};
                for (int order = 0; order < 4; order++) {
                    x.row("ending " + order, 4, 2, loss[order], -1);
                }
                // 8 is returned, or 9; 7 is in each order
                int[] byNumber = {5, 38, 0, 7};
                int[] leastFirst = {0, 39, 0, 7};
                for (int bank = 0; bank < 4; bank++) {
                    x.is("ending 0 1" + bank, byNumber[bank]).is("ending 2 1" + bank, leastFirst[bank]);
                }
                x.is("ending -1 0", 2).is("ending -1 -5", 2).is("ending -1 3", 2).is("ending -1 greatest", 2);
                x.is("ending -1 least", 2).is("ending -1 12", 2);
            });
        says("NONE if one can't be, or another what.", () -> {
            Run x = new Run().outside("ending ? 0", -1, 3, -1).outside("ending 0 ?", 0, 2, -1);
            x.outside("ending 3 ?", 0, 13, -1).is("ending 0 9", -1).is("ending 0 3", -1).is("ending 0 14", -1);
            x.is("ending 4 10", -1).is("ending -2 2", -1).is("ending 3 13", 0).is("ending 3 2", 0).is("ending 3 10", 0);
        });
        says("SNOWED; NONE if there is no such DAY.", () -> {
            Run x = Run.apart().yes("town 3 1").is("snowed", -1).does("pay 0 2 0 1 100").is("snowed", -1).days(3);
            x.does("pay 0 1 1 3 100").is("snowed", 4).days(1).is("snowed", -1).days(85).is("snowed", -1);
        });
    }

    private static void payments() {
        says("A PAYMENT (amount 0, whatever the TOWN: there are none any more): how many; NONE if one can't be, or there "
            + "are six.", () -> {
                Run x = new Run().is("payment 0 0", 0).is("payment 0 3", 0).is("payment 0 least", 0).is("payment 1 0", 1);
                x.is("payment 99999 2", 2).outside("payment ? 0", 0, 99999, -1).outside("payment 1 ?", 0, 2, -1);
                for (int n = 3; n <= 6; n++) {
                    x.is("payment 1 1", n);
                }
                x.is("payment 1 1", -1).is("payment 99999 0", -1).is("look 2", 6).is("payment 0 greatest", 0);
                x.is("look 2", 0).is("payment 7 2", 1).is("look 2", 1);
            });
        says("FLOAT of a HOUSE what 0 MOST, 1 LEAST, 10 + i, 20 + i the BANK of PAYMENT i by MOST, LEAST.", () -> {
            Run x = Run.apart().does("rail 0 1 3", "cash 3 0 50", "cash 3 1 50", "cash 3 2 50", "payment 50 0");
            x.does("payment 40 1").is("payFloat 3 0", 270).is("payFloat 3 1", 0).is("payFloat 3 10", 1);
            x.is("payFloat 3 11", 0).is("payFloat 3 20", 0).is("payFloat 3 21", 1).does("payment 30 2");
            x.is("payFloat 3 0", 290).is("payFloat 3 10", 1).is("payFloat 3 11", 2).is("payFloat 3 12", 0);
            x.is("payFloat 3 1", 0).is("payFloat 3 22", 2);
        });
        says("NONE if there is no way, one can't be, or another what.", () -> {
            Run x = new Run().does("cash 0 0 50", "payment 25 0", "payment 25 0").is("payFloat 0 0", 0);
            x.outside("payFloat ? 0", 0, 5, -1).outside("payFloat 0 ?", 0, 1, -1).is("payFloat 0 2", -1);
            x.is("payFloat 0 9", -1).is("payFloat 0 12", -1).is("payFloat 0 19", -1).is("payFloat 0 22", -1);
            x.is("payFloat 0 11", 0).is("payFloat 0 21", 0).is("payFloat 1 0", -1).is("payFloat 1 10", -1);
            x.does("payment 1 0").is("payFloat 0 0", -1).is("payFloat 0 1", -1).is("payFloat 0 10", -1);
            x.is("payFloat 0 20", -1).does("payment 0 0").is("payFloat 0 10", -1).is("payFloat 0 20", -1);
        });
    }

    private static void rest() {
        says("A ROOM on a DAY (not behind NOW) what 0 .. 3 NET of that BANK, 4 GROSS, 5 ROUND.", () -> {
            Run x = new Run().does("cash 0 0 50", "cash 1 1 50", "pay 0 0 1 1 30", "pay 1 1 0 0 20").days(1);
            x.row("room 1", -10, 10, 0, 0, 50, 40).row("room 0", 0, 0, 0, 0, 0, 0).row("room 2", Run.NO, Run.NO, Run.NO);
            x.days(1).row("room 2", 0, 0, 0, 0, 0, 0).row("room 1", -10, 10, 0, 0, 50, 40);
        });
        says("NONE - 99999999 if one can't be, or another what.", () -> {
            Run x = new Run().outside("room ? 0", 0, 0, Run.NO).outside("room 0 ?", 0, 5, Run.NO).days(2);
            x.outside("room ? 5", 0, 2, Run.NO).is("room 2 5", 0).days(87).is("room 89 4", 0);
            x.outside("room ? 4", 0, 89, Run.NO);
        });
        says("SEEN for a part 1 .. 1000; NONE if there is no such DAY up to NOW, or one can't be.", () -> {
            Run x = new Run().does("cash 0 0 50", "cash 1 1 50").days(88).does("pay 0 0 1 1 30", "pay 1 1 0 0 20");
            x.is("seen 1", -1).days(1).is("seen 800", 89).is("seen 801", -1).is("seen 1", 89).outside("seen ?", 1, 1000, -1);
        });
        says("BURNT books of a BANK, of a HOUSE, with an amount 0 .. 99999 a DAY: what 0 LOW, 1 HIGH.", () -> {
            Run x = new Run().does("cash 4 1 50", "pay 4 1 0 0 30", "pay 0 0 4 1 8").days(1);
            x.row("burnt 1 4 0", 28, 28).row("burnt 1 4 99999", 28, 28 + 2 * 99999).row("burnt 0 4 1", 0, 2);
            x.row("burnt 0 0 3", 22, 28).row("burnt 1 0 3", 0, 6);
        });
        says("NONE - 99999999 if one can't be, or another what.", () -> {
            new Run().outside("burnt ? 0 5 0", 0, 3, Run.NO).outside("burnt 0 ? 5 0", 0, 5, Run.NO)
                .outside("burnt 0 0 ? 0", 0, 99999, Run.NO).outside("burnt 0 0 ? 1", 0, 99999, Run.NO)
                .outside("burnt 0 0 5 ?", 0, 1, Run.NO).row("burnt 3 5 99999", 0, 99999);
        });
        says("HONEST LOSS of h (0 .. 20) days; NONE if it can't be.", () -> {
            Run x = new Run().does("pay 0 0 1 1 5000").is("honest 0", 0).is("honest 20", 100).is("honest 3", 15);
            x.outside("honest ?", 0, 20, -1);
        });
        says("THE IMAGE is taken (true), or gone back to (false): true; false if there is none.", () -> {
            Run x = new Run().no("image false").is("look 5", 0).no("image false").yes("image true").is("look 5", 1);
            x.does("cash 0 0 5").days(2).yes("image true").does("cash 0 0 6").days(2).yes("image false").is("look 0", 2);
            x.is("book 0 0 0", 5).yes("image false").is("look 5", 1).is("look 0", 2).days(1).yes("image true").days(1);
            x.yes("image false").is("look 0", 3);
        });
        says("What 0 NOW, 1 CHEQUES, 2 PAYMENTS, 3 KITERS, 4 1 if NOW is of BUSINESS, 5 1 if there is an IMAGE, 6 "
            + "ENTRIES.", () -> {
                Run x = new Run().does("kiters 33", "payment 5 1", "cash 0 0 5", "pay 0 0 1 1 5", "pay 0 0 1 1 5");
                x.does("payment 6 2", "told 0 1 true").row("look", 0, 2, 2, 33, 1, 0, 3).yes("image true").days(1);
                x.row("look", 1, 2, 2, 33, 0, 1, 3).days(1).row("look", 2, 2, 2, 33, 1, 1, 4).days(4);
                x.row("look", 6, 2, 2, 33, 0, 1, 5);
            });
        says("NONE for another what.", () -> {
            new Run().outside("look ?", 0, 6, -1);
        });
    }
}
