/** The document's fourth part: the end, snow, payments, the room, burnt books, honest loss, the image. */
final class SentencesOfTheEnd {
    private SentencesOfTheEnd() {
    }

    static void all() {
        theEnd();
        losses();
        snowed();
        payments();
        rooms();
        burnt();
        image();
    }

    private static void says(String quote, Runnable test) {
        Sentences.says(quote, test);
    }

    private static void theEnd() {
        says("THE END, in thought (nothing of it stays): MORNING by MORNING from NOW on, nothing new paid in, till "
            + "nothing is in FLIGHT (or 40 DAYS; DAYS above 89 are as told for FLIGHT, KEPT is not):", () -> {
                Run x = Run.apart().law(0, "fee 5;").law(4, "cry when book<0;").is("ending 0 0", 0).is("ending 0 1", 0);
                x.does("pay 0 0 1 1 50").days(1).mark().is("ending 0 0", 3).is("ending 0 1", 1).is("ending 0 2", 5);
                x.is("ending 3 0", 3).unchanged().row("cheque 0", 0, 0, 1, 1, 50, 0, 0, 1, 0, -1).is("kept 2 0 0", Run.NO);
                x.is("alone 0 0", -1).is("book 0 0 0", 0).days(3).is("sums 4", 0).is("ending 0 0", 0).is("ending 0 2", 5);
                // 40 days, and one more
                for (int more = 0; more < 2; more++) {
                    Run y = new Run().does("pay 0 0 1 1 50", "cash 1 1 -50");
                    for (int day = 1; day < 40 + more; day++) {
                        y.does("told 0 " + day + " true");
                    }
                    y.is("ending 0 0", 40).is("ending 0 1", 1 - more).is("ending 0 2", 0).is("ending 0 11", 0);
                }
                Run z = new Run().does("pay 0 0 1 1 50", "cash 1 1 -50");
                for (int day = 1; day < 39; day++) {
                    z.does("told 0 " + day + " true");
                }
                z.is("ending 0 0", 40).is("ending 0 1", 1).is("ending 0 2", 50);
                above();
            });
        says("CHEQUES that are asked for at a BANK on one DAY by an ORDER: 0 by number, 1 the greatest first, 2 the "
            + "least first (of several by number), 3 by the HOUSE that drew it, then by number.", () -> {
                // of 100: each that is returned costs 30
                Run x = new Run().law(0, "fee 30;").does("cash 1 0 100");
                x.does("pay 1 0 2 1 60", "pay 1 0 2 1 90", "pay 1 0 2 1 40", "pay 1 0 2 1 10");
                int[] loss = {50, 80, 10, 50};
                int[] returned = {3, 3, 2, 3};
                for (int order = 0; order < 4; order++) {
                    x.is("ending " + order + " 2", loss[order]).is("ending " + order + " 1", returned[order]);
                }
                // what is asked for in truth is by number
                x.days(1).is("cheque 0 6", 1).is("cheque 1 6", 2).is("cheque 2 6", 2).is("cheque 3 6", 2);
                x.is("book 1 0 0", -50);
                ties();
                byHouse();
            });
    }

    private static void above() {
        // 90 is a Sunday, 91 of business; neither is closed or of snow
        Run x = Run.apart().does("told 0 88 true", "told 1 89 true").days(87).does("cash 0 0 50", "pay 0 0 1 1 50");
        x.does("pay 1 1 2 2 60").is("ending 0 0", 6).is("ending 0 1", 1).days(2).is("look 0", 89);
        x.is("cheque 0 7", 1).is("ending 0 0", 4).is("kept 89 1 0", 50).is("kept 90 1 0", Run.NO).is("look 0", 89);
        // weekdays go on behind 89
        Run y = Run.apart().law(0, "fee 1 when weekday=0;fee 7 when weekday=6;fee 50;").days(89);
        y.does("pay 0 0 1 3 5", "pay 0 0 1 1 5").is("ending 0 10", 2).is("ending 0 0", 4);
    }

    private static void ties() {
        // the second one comes back, to a house that has drawn it already
        Run x = new Run().does("cash 1 0 50", "pay 1 0 2 1 50", "pay 1 0 3 2 50", "cash 2 1 -50", "cash 3 2 -50");
        // a lesser and a greater one of another house do not come between
        x.does("pay 4 0 5 3 49", "pay 4 0 5 3 51");
        for (int order = 0; order < 4; order++) {
            x.is("ending " + order + " 11", 0).is("ending " + order + " 12", 50).is("ending " + order + " 1", 3);
        }
    }

    private static void byHouse() {
        // numbers go crosswise: of each house the first by number is paid
        Run x = new Run().does("cash 1 0 50", "cash 0 0 50");
        x.does("pay 1 0 2 1 50", "pay 0 0 2 2 50", "pay 0 0 3 1 49", "pay 1 0 3 2 51");
        x.does("cash 2 1 -50", "cash 2 2 -50", "cash 3 1 -49", "cash 3 2 -51");
        int[] atOne = {49, 49, 0, 49};
        int[] atTwo = {51, 51, 101, 51};
        for (int order = 0; order < 4; order++) {
            x.is("ending " + order + " 11", atOne[order]).is("ending " + order + " 12", atTwo[order]);
        }
    }

    private static void losses() {
        says("LOSS of a BANK: what BOOKS at it are below 0, added.", () -> {
            Run x = new Run().law(0, "limit 99;").law(2, "limit 99;").does("cash 0 0 -30", "cash 1 0 -4", "cash 2 0 500");
            x.does("cash 5 2 -7", "cash 0 2 7", "cash 0 1 60").is("ending 0 2", 41);
            for (int order = 0; order < 4; order++) {
                x.is("ending " + order + " 10", 34).is("ending " + order + " 11", 0).is("ending " + order + " 12", 7);
                x.is("ending " + order + " 13", 0).is("ending " + order + " 14", -1).is("ending " + order + " 9", -1);
            }
            // behind all that is in flight: what comes back, and what is paid, too
            x.does("pay 3 3 0 0 29", "pay 2 0 5 2 6").is("ending 0 2", 41 - 6).days(1).is("ending 0 2", 35);
            x.is("ending 0 0", 1).is("ending 0 10", 34).is("ending 0 12", 1);
        });
        says("BEST ORDER: the least LOSS of all BANKS; of several the first.", () -> {
            Run x = new Run().is("ending -1 0", 0).does("cash 1 0 100", "pay 1 0 2 1 60", "pay 1 0 2 1 90");
            x.does("pay 1 0 2 1 40", "pay 1 0 2 1 10").is("ending -1 2", 0);
            String[] laws = {"fee 30;", "fee 30 when amount<70;fee 100;", "fee 30 when amount<70;fee 90;",
                "fee 20 when amount<70;fee 90;", "fee 5 when amount=90;fee 50;", "fee 1 when amount=60;fee 90;"};
            int[][] loss = {{50, 80, 10}, {120, 80, 80}, {110, 80, 70}, {90, 50, 60}, {65, 140, 5}, {230, 171, 41}};
            int[] best = {2, 1, 2, 1, 2, 2};
            for (int i = 0; i < laws.length; i++) {
                x.law(0, laws[i]);
                for (int order = 0; order < 3; order++) {
                    x.is("ending " + order + " 2", loss[i][order]);
                }
                x.is("ending 3 2", loss[i][0]).is("ending -1 0", best[i]);
            }
            // by number 40 is returned, the greatest first 30, the least first 60
            Run y = new Run().law(0, "fee 100 when amount<35 or amount>55;").does("cash 1 0 100");
            y.does("pay 1 0 2 1 30", "pay 1 0 2 1 60", "pay 1 0 2 1 40").is("ending 0 2", 0).is("ending 1 2", 100);
            y.is("ending 2 2", 70).is("ending -1 0", 0).law(0, "fee 100 when amount<35 or amount=40;");
            y.is("ending 0 2", 90).is("ending 2 2", 0).is("ending -1 0", 2);
            y.law(0, "fee 100 when amount>35;").is("ending 0 2", 90).is("ending 1 2", 0).is("ending -1 0", 1);
            // order 0 and 2 alike, and less than 1
            y.law(0, "fee 40 when amount=40;fee 60 when amount=60;fee 80;").is("ending 0 2", 30).is("ending 2 2", 30);
            y.is("ending 1 2", 80).is("ending -1 0", 0);
        });
    }

    /** Cheque 0 comes back on day 4 to bank 1, where cheque 1 is asked for: later, with snow on 4. */
    private static Run kite() {
        return Run.apart().yes("town 3 1").does("pay 0 2 0 1 100");
    }

    private static void snowed() {
        says("SNOWED: the first DAY (NOW and 1 .. NOW and 14, 89 at most), without SNOW as told, for which THE END "
            + "(ORDER 0), with SNOW on it too, has more LOSS of all than without.", () -> {
                Run x = new Run().is("snowed", -1);
                Run y = kite().is("snowed", -1).days(3).does("pay 0 1 1 3 100").is("ending 0 2", 0).mark();
                y.is("snowed", 4).unchanged().is("ending 0 2", 0).is("flight 0 1 3", 2);
                y.yes("told 1 4 true").is("ending 0 2", 100).is("snowed", -1).yes("told 1 4 false").is("snowed", 4);
                // snow on another day does not matter, nor what has less loss by it
                y.yes("told 1 6 true").is("snowed", 4);
                inOrder();
                late();
                farOff();
            });
    }

    private static void inOrder() {
        // by number the loss is 50, the greatest first it is 80: neither is taken for what snow does
        String[] cheques = {"pay 1 0 2 0 60", "pay 1 0 2 0 90", "pay 1 0 2 0 40", "pay 1 0 2 0 10"};
        Run x = new Run().law(0, "fee 30;").does("cash 1 0 100").does(cheques).is("ending 0 2", 50);
        x.is("ending 1 2", 80).is("snowed", -1);
        Run y = Run.apart().law(0, "fee 30;").yes("town 3 1").does("cash 1 0 100", "pay 0 2 0 1 20").days(3);
        y.does(cheques).does("pay 0 1 1 3 20").is("ending 0 2", 50).is("ending 1 2", 80).is("snowed", 4);
    }

    private static void late() {
        // 89 is tried, from 88 on; what would be 90 or more is not
        Run x = kite().days(4);
        x.is("sums 4", 0).days(81).is("look 0", 85).does("pay 0 2 0 1 100").days(3).does("pay 0 1 1 3 100");
        x.is("look 0", 88).is("snowed", 89).days(1).is("snowed", -1);
        Run y = Run.apart().yes("town 3 1").days(88).yes("rail 1 2 0").does("pay 0 2 0 1 100").yes("rail 1 2 2");
        y.days(1).is("cheque 0 7", 2).does("pay 0 1 1 3 100").is("ending 0 2", 0).is("ending 0 1", 1);
        y.is("snowed", -1);
    }

    private static void farOff() {
        // both wait for the first day of business, NOW and 14 or NOW and 15, to which snow lasts as told
        for (int more = 0; more < 2; more++) {
            Run x = Run.apart().yes("town 3 1").yes("rail 1 2 0").does("pay 0 2 0 1 100").yes("rail 1 2 1").days(1);
            x.is("cheque 0 6", 2).is("cheque 0 7", 1).does("pay 0 1 1 3 100");
            for (int day = 2; day < 15 + more; day++) {
                x.does("told 0 " + day + " true", "told 1 " + day + " true");
            }
            x.is("ending 0 2", 0).is("snowed", more == 0 ? 15 : -1);
        }
    }

    private static void payments() {
        says("PAYMENTS (6 at most): an amount (1 .. 99999), a TOWN to which it goes (it is paid in there).", () -> {
            Run x = new Run().is("look 2", 0).is("payment 1 0", 1).is("payment 99999 2", 2).is("payment 100000 2", -1);
            x.is("payment -1 2", -1).outside("payment 5 ?", 0, 2, -1).is("look 2", 2);
            for (int n = 3; n <= 6; n++) {
                x.is("payment 7 1", n);
            }
            x.is("payment 7 1", -1).is("look 2", 6).is("payment 0 0", 0).is("payment 7 1", 1);
        });
        says("A HOUSE pays each by a CHEQUE ON one of the BANKS, so that all ON a BANK are not above its USABLE there.",
            () -> {
                Run x = new Run().law(1, "hold 1;").does("cash 0 2 100", "pay 4 3 0 1 500");
                x.is("payment 100 0", 1).is("payFloat 0 10", 2).is("payFloat 0 20", 2).is("payFloat 1 0", -1);
                x.does("payment 0 0").is("payment 101 0", 1).is("payFloat 0 0", -1).is("payFloat 0 10", -1);
                x.does("payment 0 0", "payment 60 0", "payment 40 0").is("payFloat 0 11", 2).does("payment 1 0");
                x.is("payFloat 0 0", -1).does("cash 0 3 1").is("payFloat 0 10", 2).is("payFloat 0 12", 3);
                // what is held is not usable; on the next day it is
                x.does("payment 0 0", "payment 400 0").is("payFloat 0 0", -1).days(1).is("payFloat 0 10", 1);
                // a bank on which nothing is drawn may be below nothing
                Run y = new Run().law(1, "limit 9;").does("cash 0 1 -5", "cash 0 3 8").is("payFloat 0 0", 0);
                y.does("payment 8 1").is("payFloat 0 20", 3).does("payment 1 1").is("payFloat 0 0", -1);
            });
        says("FLOAT: of each amount times RAIL (from the TOWN to that of the BANK), added.", () -> {
            Run x = Run.apart().does("rail 0 1 3", "rail 0 2 5", "rail 1 2 1", "cash 0 1 9999").is("payFloat 0 0", 0);
            x.does("payment 7 0").is("payFloat 0 0", 21).does("payment 10 1").is("payFloat 0 0", 21);
            x.does("payment 100 2").is("payFloat 0 0", 121).is("payFloat 0 1", 121).yes("rail 0 1 0");
            x.is("payFloat 0 0", 100).yes("rail 1 2 4").is("payFloat 0 1", 400).does("payment 0 0").is("payFloat 0 0", 0);
        });
        says("MOST and LEAST of all ways; of several the first (BANK of PAYMENT 0, 1, ..).", () -> {
            Run x = Run.apart().does("rail 0 1 3", "rail 0 2 5", "rail 1 2 1");
            x.does("cash 0 0 100", "cash 0 1 100", "cash 0 2 100", "cash 0 3 100");
            x.does("payment 60 0", "payment 50 0", "payment 40 1");
            // most: 60 on 2, 50 on 1, 40 on 0 (or 3); least: 60 on 0, 50 on 3 (or crosswise), 40 on 1
            x.is("payFloat 0 0", 300 + 150 + 120).is("payFloat 0 1", 0);
            int[] most = {2, 1, 0};
            int[] least = {0, 3, 1};
            for (int i = 0; i < 3; i++) {
                x.is("payFloat 0 1" + i, most[i]).is("payFloat 0 2" + i, least[i]);
            }
            x.is("payFloat 0 13", -1).is("payFloat 0 23", -1).does("payment 0 0");
            for (int i = 0; i < 4; i++) {
                x.does("payment 100 0");
            }
            // each bank pays one: all ways are equal
            x.is("payFloat 0 0", 800).is("payFloat 0 1", 800);
            for (int i = 0; i < 4; i++) {
                x.is("payFloat 0 1" + i, i).is("payFloat 0 2" + i, i);
            }
            Run y = new Run().does("cash 2 3 60", "cash 2 1 60");
            for (int i = 0; i < 6; i++) {
                y.does("payment 20 2");
            }
            int[] first = {1, 1, 1, 3, 3, 3};
            for (int i = 0; i < 6; i++) {
                y.is("payFloat 2 1" + i, first[i]).is("payFloat 2 2" + i, first[i]);
            }
            y.is("payFloat 2 16", -1).is("payFloat 2 0", 240);
        });
    }

    private static void rooms() {
        says("A ROOM nets what was PAID on a DAY: NET of a BANK: what was PAID of CHEQUES paid in AT it, less what it "
            + "PAID (ON it).", () -> {
                Run x = new Run().does("cash 0 0 1000", "cash 1 1 1000", "cash 2 2 1000", "cash 3 3 70");
                x.row("room 0", 0, 0, 0, 0).does("pay 0 0 1 1 300", "pay 1 1 2 2 200", "pay 2 2 0 0 150", "pay 3 3 3 3 70");
                x.does("pay 5 0 1 3 900").is("day", 1).row("room 1", -150, 100, 50, 0).row("room 0", 0, 0, 0, 0);
                // what came back was never paid; day 1 stays as it was
                x.does("pay 0 0 1 3 5").is("day", 0).row("room 2", -5, 0, 0, 5).row("room 1", -150, 100, 50, 0);
            });
        says("GROSS: all PAID; ROUND: GROSS less half of all NETS, as far as from 0, added.", () -> {
            Run x = new Run().does("cash 0 0 1000", "cash 1 1 1000", "cash 2 2 1000", "cash 3 3 70");
            x.is("room 0 4", 0).is("room 0 5", 0);
            x.does("pay 0 0 1 1 300", "pay 1 1 2 2 200", "pay 2 2 0 0 150", "pay 3 3 3 3 70", "pay 5 0 1 3 900").days(1);
            x.is("room 1 4", 720).is("room 1 5", 720 - 150).does("pay 0 0 1 1 9", "pay 0 0 1 1 2").days(1);
            x.is("room 2 4", 11).is("room 2 5", 0).does("pay 0 0 1 1 9", "pay 1 1 0 0 9").days(1);
            x.is("room 3 4", 18).is("room 3 5", 18).is("room 2 4", 11).is("room 4 4", Run.NO);
        });
        says("SEEN for a part (1 .. 1000 thousandths): the first DAY on which GROSS is above 0 and ROUND times 1000 is "
            + "not below GROSS times it.", () -> {
                Run x = new Run().does("cash 0 0 1000", "cash 1 1 1000").is("seen 1", -1).does("pay 0 0 1 1 300").days(1);
                x.is("seen 1", -1).does("pay 0 0 1 1 200", "pay 1 1 0 0 100").days(1).is("room 2 4", 300).is("room 2 5", 200);
                x.is("seen 666", 2).is("seen 667", -1).does("pay 0 0 1 1 50", "pay 1 1 0 0 50").days(1);
                x.is("seen 1000", 3).is("seen 667", 3).is("seen 666", 2).is("seen 1", 2).outside("seen ?", 1, 1000, -1);
                // just as much: 1 of 4 is 250 thousandths
                Run y = new Run().does("cash 0 0 99", "pay 0 0 1 1 3", "pay 0 0 1 0 1").days(1);
                y.is("room 1 5", 1).is("seen 250", 1).is("seen 251", -1).is("seen 1", 1);
                // the least that can be paid
                Run w = new Run().does("cash 0 0 1", "pay 0 0 1 0 1").days(1).is("room 1 4", 1).is("seen 1000", 1);
                // sums whose thousandfold is above an int
                Run z = new Run().does("cash 0 0 999999", "cash 0 0 999999", "cash 0 0 999999", "cash 0 0 999999");
                for (int i = 0; i < 40; i++) {
                    z.does("pay 0 0 1 " + (i < 20 ? 0 : 1) + " 99990");
                }
                z.days(1).is("room 1 4", 3999600).is("room 1 5", 1999800).is("seen 500", 1).is("seen 501", -1);
            });
    }

    private static void burnt() {
        says("BURNT books of a BANK: of a HOUSE LOW is: CASH it paid in there less drawn, less CHEQUES it drew ON it "
            + "that are PAID, less FEES it paid there, and CHEQUES it paid in AT it that are PAID elsewhere (ON another "
            + "BANK);", () -> {
                Run x = Run.apart().law(0, "fee 5;").law(3, "fee 30;").does("cash 2 0 1000", "cash 2 0 -100", "cash 2 3 4");
                x.does("cash 4 3 500", "pay 2 0 4 3 300", "pay 2 0 4 3 999", "pay 4 3 2 0 70", "pay 4 0 2 0 20");
                x.does("pay 2 0 2 0 10", "pay 2 0 4 1 8").is("burnt 0 2 9 0", 900).is("burnt 3 4 0 0", 500).days(1);
                // 300 and 10 are paid; 999 and 20 are returned; 8 rides still
                x.is("burnt 0 2 9 0", 900 - 300 - 10 - 5 + 70).is("burnt 3 4 0 0", 500 - 70 + 300).is("burnt 3 2 0 0", 4);
                x.is("burnt 0 4 0 0", -5).is("burnt 1 4 0 0", 0).is("burnt 1 2 0 0", 0).days(1);
                x.is("burnt 0 2 9 0", 647).is("burnt 1 4 0 0", 8).is("burnt 0 4 0 0", -5).is("book 2 0 0", 657);
            });
        says("HIGH is LOW and all days it can have paid in and that nobody else has seen: a told amount for each DAY of "
            + "BUSINESS of the last seven.", () -> {
                Run x = new Run().does("told 0 3 true", "told 1 4 true", "cash 2 0 50").is("burnt 0 2 9 1", 59);
                int[] days = {1, 2, 3, 3, 4, 5, 5, 5, 5, 5, 6, 6, 6, 6, 6};
                for (int day = 0; day < days.length; day++) {
                    x.is("burnt 0 2 99999 1", 50 + days[day] * 99999).is("burnt 0 2 99999 0", 50).days(1);
                }
                x.is("burnt 0 2 0 1", 50).is("burnt 3 5 1 1", 6);
            });
        says("HONEST LOSS of h more days of HOLD for all BANKS: over all CHEQUES paid in by HOUSES that are no KITERS: "
            + "amount times h, by 1000 each, added.", () -> {
                Run x = new Run().is("honest 20", 0).does("pay 0 0 1 1 99", "pay 0 0 1 1 199", "pay 0 0 2 1 1000");
                x.does("pay 3 0 0 1 99999").is("honest 10", 1 + 10 + 999).is("honest 20", 1 + 3 + 20 + 1999);
                x.is("honest 0", 0).is("honest 1", 1 + 99).yes("kiters 5").is("honest 20", 4).is("honest 10", 1);
                x.days(2).is("cheque 0 6", 3).is("honest 20", 4).yes("kiters 63").is("honest 20", 0).yes("kiters 8");
                x.is("honest 20", 2023).outside("honest ?", 0, 20, -1);
            });
    }

    private static void image() {
        says("THE IMAGE: all (texts, BOOKS, CHEQUES, ENTRIES, KEPT, DAYS told, PAYMENTS, all but the TAPE and fault()), "
            + "as it was when it was taken; gone back to it may be more than once.", () -> {
                Run x = Run.apart().does("rail 0 2 3", "told 1 9 true", "told 0 10 true").law(0, "hold 3;fee 2;limit 1;");
                x.law(4, "cry when count>0;").does("cash 0 0 100", "pay 1 1 0 0 40", "payment 10 1", "kiters 5").days(1);
                x.yes("image true").yes("look 5");
                for (int round = 0; round < 2; round++) {
                    x.law(0, "hold 9;").law(1, "fee 4;").law(4, "cry when 1=1;").law(3, "limit 5;").does("told 1 9 false", "told 0 10 false");
                    x.does("told 0 3 true", "rail 0 1 5", "rail 0 2 0", "cash 0 0 1", "pay 0 0 0 0 1", "payment 20 2");
                    x.does("payment 0 0", "payment 30 2", "payment 30 2", "kiters 9").days(12).text(0, "hold", -1).tape("hold 1;");
                    x.yes("image false").is("fault 0", 1).is("fault 1", 4).is("text 1", 1);
                    imageStands(x);
                    x.yes("image false");
                }
                x.days(1).yes("image true").days(1).yes("image false").is("look 0", 2).yes("image false").is("look 0", 2);
                // towns, too, and chances to tell them
                Run y = Run.apart().yes("image true").yes("town 1 0").does("pay 0 0 1 1 5").no("town 1 1").yes("image false");
                y.is("flight 0 1 0", 2).is("look 1", 0).yes("town 1 2").is("book 1 1 0", 0);
            });
    }

    private static void imageStands(Run x) {
        int[] looks = {1, 1, 1, 5, 1, 1, 2};
        x.row("look", looks).is("entry 1 6", 140).is("entry 2 0", Run.NO).is("kept 2 0 0", Run.NO);
        x.is("kept 1 0 0", 140).is("book 0 0 0", 140).is("book 0 0 2", 40).is("alone 0 0", 1).is("alone 1 0", -1);
        x.is("flight 0 1 1", 2).is("flight 0 2 1", 3).is("flight 0 1 7", 4).is("flight 0 3 2", 1).is("flight 0 0 9", 2);
        x.is("payFloat 0 0", 20).is("payFloat 0 10", 0).is("payFloat 0 11", -1).is("burnt 0 0 0 0", 100);
        x.row("sums", 140, 40, 100, 0, 1).is("sign 0 1 7", 1).row("cheque 0", 1, 1, 0, 0, 40, 0, 0, 1, 3, -1);
        x.no("cash 5 3 -1").no("cash 5 0 -2").yes("cash 5 0 -1").is("pay 2 0 3 0 7", 1).is("cheque 1 8", 3);
        x.is("chain 1 0", -1).is("ending 0 1", 2).is("cries 1 0", 9).is("cries 1 1", 1);
    }
}
