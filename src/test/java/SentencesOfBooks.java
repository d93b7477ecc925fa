/** The document's first terms: quotients, days, and (1) banks, books, cheques and mornings. */
final class SentencesOfBooks {
    private SentencesOfBooks() {
    }

    static void all() {
        days();
        banks();
        cheques();
        mornings();
        asked();
    }

    private static void says(String quote, Runnable test) {
        Sentences.says(quote, test);
    }

    private static void days() {
        says("An object is used for at most 512 calls after it has been made; what later calls answer is free.",
            () -> {
                // as many entries as 512 calls can make
                Run x = new Run().law(0, "fee 1;");
                for (int k = 0; k < 150; k++) {
                    x.is("pay 0 0 1 1 1", k);
                }
                x.is("day", 150).is("day", 0);
                int cash = 0;
                for (; x.calls() < Run.MOST_CALLS - 1; cash++) {
                    x.yes("cash 5 3 1");
                }
                x.is("look 6", 450 + cash);
            });
        says("Quotients go downwards (to the lesser one).", () -> {
            new Run().is("growth 1999 1 1", 2000).is("growth 999 1 1", 999).is("growth 1000 1 1", 1001);
            new Run().does("pay 0 0 1 1 199").is("honest 10", 1).is("honest 5", 0).is("honest 20", 3);
        });
        says("DAYS are 0 .. 89, NOW is one of them (0 at first);", () -> {
            Run x = new Run().is("look 0", 0).yes("told 1 89 true").no("told 1 90 true").no("told 1 -1 true")
                .is("flight 0 0 0", 1).is("flight 0 0 89", 2).is("flight 0 0 90", -1).is("flight 0 0 -1", -1);
            for (int day = 1; day < 90; day++) {
                x.is("day", 0).is("look 0", day);
            }
            x.is("day", -1).is("look 0", 89);
        });
        says("WEEKDAY of a DAY: DAY modulo 7 (0 Monday .. 6 Sunday).", () -> {
            Run x = new Run().law(1, "hold weekday;");
            int k = 0;
            for (int day = 0; day < 22; day++) {
                if (day % 7 == 6) {
                    x.is("pay 0 0 1 1 5", -1);
                } else {
                    x.is("pay 0 0 1 1 5", k).is("cheque " + k + " 8", day % 7);
                    k++;
                }
                x.does("day");
            }
            new Run().law(1, "hold weekday;").days(89).is("pay 0 0 1 1 5", 0).is("cheque 0 8", 5);
        });
        says("A DAY is of BUSINESS, if it is no Sunday and not CLOSED (told).", () -> {
            Run x = new Run().yes("told 0 1 true").yes("told 0 2 true").yes("told 0 2 false")
                .yes("told 0 6 false").yes("told 0 7 true").yes("told 1 8 true").yes("told 0 13 true");
            int[] business = {1, 0, 1, 1, 1, 1, 0, 0, 1, 1, 1, 1, 1, 0, 1};
            for (int day = 0; day < business.length; day++) {
                x.is("look 0", day).is("look 4", business[day]).does("day");
            }
        });
        says("SNOW may be told of DAYS: no train runs.", () -> {
            Run x = Run.apart().yes("told 1 1 true").does("cash 0 0 9");
            x.is("pay 0 0 1 1 9", 0).is("pay 2 0 3 3 5", 1);
            // the cheque that needs no train is asked for in snow, too
            x.is("day", 1).is("look 4", 1).is("cheque 0 7", 2).is("cheque 1 6", 2);
            x.is("day", 0).is("cheque 0 7", 1).is("cheque 1 6", 3);
            x.is("day", 0).is("cheque 0 6", 1);
            // nor does one run on a Sunday or a closed day with snow, nor for what goes back
            Run y = Run.apart().does("told 1 6 true", "told 1 7 true", "told 0 7 true", "told 1 11 true");
            y.days(5).is("pay 0 0 1 1 9", 0).days(1).is("cheque 0 7", 2).days(1).is("cheque 0 7", 2);
            y.days(1).is("cheque 0 7", 1).is("day", 1).is("look 0", 9).is("cheque 0 7", 2);
            y.days(1).is("cheque 0 7", 1).days(1).is("cheque 0 7", 1).days(1).is("cheque 0 6", 3);
        });
    }

    private static void banks() {
        says("BANKS 0 .. 3 have a TOWN 0 .. 2 (0 at first);", () -> {
            Run x = new Run();
            for (int i = 0; i < 16; i++) {
                x.is("flight " + i / 4 + " " + i % 4 + " 0", 1);
            }
            x.yes("town 0 2").is("flight 0 1 0", 2).yes("town 3 2").is("flight 0 3 0", 1).is("flight 3 1 0", 2);
            x.yes("town 3 0").is("flight 3 1 0", 1).outside("town ? 0", 0, 3, 0).outside("town 0 ?", 0, 2, 0);
            x.is("flight 0 1 0", 2);
        });
        says("RAIL between two TOWNS is 0 .. 5 (2 at first, 0 within one TOWN; both ways alike).", () -> {
            Run x = Run.apart().is("flight 0 1 0", 2).is("flight 0 2 0", 2).is("flight 1 2 0", 2);
            x.is("flight 2 1 0", 2).is("flight 0 3 0", 1).is("flight 1 1 0", 1);
            x.yes("rail 0 1 5").is("flight 0 1 0", 5).is("flight 1 0 0", 5).is("flight 3 1 0", 5);
            x.is("flight 1 2 0", 2).is("flight 0 2 0", 2);
            x.yes("rail 2 1 4").is("flight 1 2 0", 4).is("flight 2 1 0", 4);
            x.yes("rail 0 1 0").is("flight 0 1 0", 1).is("pay 0 0 1 1 5", 0).is("cheque 0 7", 0);
            x.no("rail 0 1 6").no("rail 0 1 -1").is("flight 0 1 0", 1);
            x.no("rail 1 1 1").no("rail 0 0 0").is("flight 0 3 0", 1);
        });
        says("HOUSES 0 .. 5 have a BOOK at each BANK (0 at first).", () -> {
            Run x = new Run();
            for (int house = 0; house < 6; house++) {
                for (int bank = 0; bank < 4; bank++) {
                    x.is("book " + house + " " + bank + " 0", 0);
                    x.yes("cash " + house + " " + bank + " " + (10 * house + bank + 1));
                }
            }
            for (int house = 0; house < 6; house++) {
                for (int bank = 0; bank < 4; bank++) {
                    x.is("book " + house + " " + bank + " 0", 10 * house + bank + 1);
                }
            }
        });
        says("CASH is paid in (BOOK is more), or drawn, on DAYS of BUSINESS.", () -> {
            Run x = new Run().does("told 0 8 true").yes("cash 5 3 7").is("book 5 3 0", 7);
            x.yes("cash 5 3 -3").is("book 5 3 0", 4).days(6).no("cash 5 3 1").no("cash 5 3 -1");
            x.days(1).yes("cash 5 3 1").days(1).no("cash 5 3 1").no("cash 5 3 -1").is("book 5 3 0", 5);
            x.days(1).yes("cash 5 3 -1").is("book 5 3 0", 4).is("look 6", 4);
        });
    }

    private static void cheques() {
        says("CHEQUES 0 .. 149 as they come, on DAYS of BUSINESS: a HOUSE draws it ON a BANK, for a HOUSE (it may "
            + "be itself) that pays it in AT a BANK, 1 .. 99999.", () -> {
                Run x = new Run().does("told 0 1 true").is("pay 0 3 5 2 1", 0).row("cheque 0", 0, 3, 5, 2, 1, 0);
                x.is("pay 4 1 4 1 99999", 1).row("cheque 1", 4, 1, 4, 1, 99999, 0).is("book 4 1 0", 99999);
                x.mark().is("pay 0 0 0 0 0", -1).is("pay 0 0 0 0 100000", -1).is("pay 0 0 0 0 -1", -1).unchanged();
                x.days(1).is("pay 0 0 0 0 1", -1).days(5).is("pay 0 0 0 0 1", -1).days(1).is("look 1", 2);
                for (int k = 2; k < 150; k++) {
                    x.is("pay 0 0 1 1 7", k);
                }
                x.mark().is("pay 0 0 1 1 7", -1).unchanged().is("look 1", 150).is("cheque 149 5", 7);
                x.is("cheque 150 0", Run.NO_CHEQUE);
            });
        says("BOOK of that HOUSE AT that BANK is more at once; it is HELD for HOLD days: until DAY paid in and HOLD, "
            + "that one not included.", () -> {
                Run x = new Run().law(2, "hold 3;").does("cash 0 0 50").days(1).is("pay 0 0 1 2 50", 0);
                x.is("book 1 2 0", 50).is("book 0 0 0", 50).is("book 0 2 0", 0).is("book 1 0 0", 0);
                for (int day = 1; day < 6; day++) {
                    x.is("book 1 2 2", day < 4 ? 50 : 0).is("book 1 2 1", day < 4 ? 0 : 50).does("day");
                }
                Run y = new Run().is("pay 0 0 1 2 50", 0).is("cheque 0 8", 0).is("book 1 2 2", 0);
                y.is("book 1 2 1", 50);
                Run z = new Run().law(1, "hold 1;").is("pay 0 0 1 1 50", 0).is("book 1 1 2", 50);
                Run w = new Run().law(2, "hold 20;").does("cash 0 0 50", "pay 0 0 1 2 50").days(19);
                w.is("book 1 2 2", 50).days(1).is("book 1 2 2", 0).is("book 1 2 1", 50);
            });
        says("It is on its WAY: RAIL from AT's TOWN to ON's TOWN are TRAINS that it still needs.", () -> {
            Run x = Run.apart().does("rail 0 1 3", "rail 1 2 5").is("pay 0 0 1 1 5", 0).is("pay 0 1 1 0 5", 1);
            x.is("pay 0 1 1 2 5", 2).is("pay 0 0 1 2 5", 3).is("pay 0 0 1 3 5", 4).is("pay 0 1 1 1 5", 5);
            int[] trains = {3, 3, 5, 2, 0, 0};
            for (int k = 0; k < 6; k++) {
                x.is("cheque " + k + " 6", 0).is("cheque " + k + " 7", trains[k]);
            }
            x.yes("rail 0 1 1").is("cheque 0 7", 3);
        });
        says("USABLE of a HOUSE at a BANK: BOOK less all CHEQUES that it paid in there and that are HELD NOW (those "
            + "that are PAID, on their WAY or GOING BACK).", () -> {
                // of 10 in cash and three cheques: one is paid, one returned, the third one rides
                Run x = Run.apart().law(3, "hold 9;").does("cash 2 3 10", "cash 0 0 100");
                x.does("pay 0 0 2 3 100", "pay 0 0 2 3 40", "pay 0 1 2 3 3", "pay 0 0 2 0 6", "pay 0 0 4 3 8");
                x.is("book 2 3 0", 153).is("book 2 3 1", 10).is("book 2 3 2", 143).is("book 2 0 1", 6);
                x.days(1).is("cheque 0 6", 1).is("cheque 1 6", 2).is("cheque 2 6", 0);
                x.is("book 2 3 0", 153).is("book 2 3 1", 10).is("book 2 3 2", 143);
                // what has come back is neither in the book nor held
                x.days(1).is("cheque 1 6", 3).is("book 2 3 0", 113).is("book 2 3 1", 10).is("book 2 3 2", 103);
                x.days(2).is("cheque 2 6", 3).is("book 2 3 1", 10).is("book 2 3 2", 100);
                x.days(4).is("look 0", 8).is("book 2 3 1", 10).days(1).is("book 2 3 1", 110).is("book 2 3 2", 0);
            });
    }

    private static void mornings() {
        says("A MORNING, of each DAY behind the first one (NOW is that DAY): all CHEQUES on their WAY or GOING BACK "
            + "need one TRAIN less, if there is no SNOW (0 at least).", () -> {
                Run x = Run.apart().does("told 0 1 true").is("kept 0 0 0", Run.NO);
                x.is("pay 0 0 1 1 5", 0).is("pay 0 0 1 3 5", 1);
                x.is("day", 0).is("look 0", 1).is("cheque 0 7", 1).is("cheque 1 7", 0).is("cheque 1 6", 0);
                x.is("day", 2).is("cheque 0 7", 2).is("cheque 1 7", 0).is("cheque 1 6", 2);
                x.is("day", 0).is("cheque 0 7", 1).is("cheque 1 7", 0).is("cheque 1 6", 3);
                x.is("day", 0).is("cheque 0 7", 0).is("cheque 0 6", 3);
                // trains run on Sundays, and what needs none waits
                Run y = Run.apart().days(5).is("pay 0 0 1 1 5", 0).is("pay 0 0 1 3 5", 1).is("day", 0);
                y.is("cheque 0 7", 1).is("cheque 1 7", 0).is("cheque 1 6", 0).is("day", 2).is("cheque 0 9", 7);
                // the rail as it was, when it was paid in, is ridden
                Run z = Run.apart().is("pay 0 0 1 1 5", 0).yes("rail 0 1 5").days(2).is("cheque 0 9", 2);
                z.is("cheque 0 7", 5);
            });
        says("On a DAY of BUSINESS then, of those that need none (a CHEQUE that was paid in, or returned, on an "
            + "earlier DAY): first those GOING BACK, by number: they COME BACK: BOOK of the HOUSE that paid it in, "
            + "AT that BANK, is less.", () -> {
                // 1 is returned ahead of 0 (bank by bank); neither comes back on that morning; then 0 is first
                Run x = new Run().does("told 0 2 true").is("pay 0 3 1 1 70", 0).is("pay 0 0 2 1 8", 1);
                x.is("day", 2).is("cheque 0 6", 2).is("cheque 1 6", 2).is("cheque 0 7", 0).is("look 6", 2);
                x.is("day", 0).is("cheque 0 6", 2).is("look 6", 2);
                x.is("day", 0).is("cheque 0 6", 3).is("cheque 1 6", 3).row("entry 2", 3, 1, 1, 4, 0, -70, 0);
                x.row("entry 3", 3, 2, 1, 4, 1, -8, 0).is("book 0 3 0", 0).is("book 1 1 0", 0);
                // they come back first: nothing is left for what is asked for on that morning
                Run y = new Run().is("pay 0 3 1 0 100", 0).is("day", 1).is("pay 1 0 2 1 100", 1);
                y.is("day", 1).is("cheque 0 6", 3).is("cheque 1 6", 2).row("entry 2", 2, 1, 0, 4, 0, -100, 0);
                // those that need a train still do not come back
                Run z = Run.apart().is("pay 0 0 1 1 7", 0).days(3).is("cheque 0 7", 1).is("cheque 0 6", 2);
                z.is("book 1 1 0", 7).days(1).is("cheque 0 6", 3).is("book 1 1 0", 0);
            });
        says("Behind a MORNING KEPT is, as of that DAY's beginning.", () -> {
            Run x = new Run().does("cash 0 1 50", "pay 0 1 2 2 30").is("kept 0 0 3", Run.NO).is("kept 1 0 3", Run.NO);
            x.days(1).row("kept 1 0", 20, 20, 0, 20, 0, 0).row("kept 1 2", 30, 30, 0, 0, 30, 0);
            x.does("cash 0 1 5", "pay 0 1 2 2 9").row("kept 1 0", 20, 20, 0, 20, 0, 0).is("kept 2 0 0", Run.NO);
            x.days(1).row("kept 2 0", 16, 16, 0, 16, 0, 0).row("kept 1 0", 20, 20, 0, 20, 0, 0);
            x.days(87).is("kept 89 0 0", 16).is("kept 90 0 0", Run.NO).is("kept 88 2 4", 39);
        });
    }

    private static void asked() {
        says("Then those on their WAY are asked for, BANK by BANK (ON), by number, one behind another:", () -> {
            // entries tell the order: bank 0 first, there by number
            Run x = new Run().does("cash 0 3 9", "cash 0 0 9", "cash 1 0 9");
            x.does("pay 0 3 2 1 1", "pay 1 0 2 1 2", "pay 0 0 2 1 3", "pay 1 0 2 1 4").is("day", 0);
            int[] order = {1, 2, 3, 0};
            for (int i = 0; i < 4; i++) {
                x.is("entry " + (7 + i) + " 3", 2).is("entry " + (7 + i) + " 4", order[i]);
            }
            // each finds the book as those ahead of it left it: a payment, and a fee
            Run y = new Run().law(0, "fee 5;").does("cash 0 0 100", "pay 0 0 1 1 60", "pay 0 0 1 1 41");
            y.does("pay 0 0 1 1 36", "pay 0 0 1 1 30").is("day", 2).is("book 0 0 0", 0);
            y.is("cheque 0 6", 1).is("cheque 1 6", 2).is("cheque 2 6", 2).is("cheque 3 6", 1);
        });
        says("PAID, if USABLE of who drew it, ON that BANK, and LIMIT are not below it: BOOK is less by it;", () -> {
            for (int more = 0; more < 2; more++) {
                // just as much, and one more; what the house has elsewhere, and others there, is of no use
                Run x = new Run().does("cash 0 0 100", "cash 0 1 500", "cash 1 0 500");
                x.does("pay 0 0 1 1 " + (100 + more)).is("day", more).is("cheque 0 6", 1 + more);
                x.is("cheque 0 9", 1).is("book 0 0 0", more == 0 ? 0 : 100).is("book 1 1 0", 100 + more);
                Run limit = new Run().law(0, "limit 50;").does("cash 0 0 100");
                limit.does("pay 0 0 1 1 " + (150 + more)).is("day", more).is("cheque 0 6", 1 + more);
                limit.is("book 0 0 0", more == 0 ? -50 : 100);
                // what is held is not usable, though it is in the book; what is not held is, at once
                Run held = new Run().law(0, "hold 2;").does("cash 0 0 100", "pay 4 1 0 0 70");
                held.does("pay 0 0 1 1 " + (100 + more)).is("day", 1 + more).is("cheque 1 6", 1 + more);
                Run free = new Run().does("cash 0 0 100", "pay 1 3 0 0 70");
                free.does("pay 0 0 1 1 " + (170 + more)).is("day", 1 + more).is("cheque 1 6", 1 + more);
            }
            // a book that is below nothing already
            Run below = new Run().law(0, "limit 50;").does("cash 0 0 -30").is("pay 0 0 1 1 20", 0);
            below.is("pay 0 0 1 1 1", 1).is("day", 1).is("cheque 0 6", 1).is("cheque 1 6", 2).is("book 0 0 0", -50);
        });
        says("else it is returned: BOOK is less by FEE (FEES are more), the CHEQUE is GOING BACK, and needs RAIL "
            + "TRAINS again.", () -> {
                Run x = Run.apart().law(0, "fee 7;").law(1, "fee 100;").does("cash 0 0 9", "cash 0 1 9");
                x.does("pay 0 0 1 1 10", "pay 0 0 1 3 10").is("day", 1).is("sums 3", 7).is("book 0 0 0", 2);
                x.is("cheque 1 6", 2).is("cheque 1 7", 0).is("cheque 1 9", 1);
                x.yes("rail 0 1 4").is("day", 1).is("sums 3", 14).is("book 0 0 0", -5).is("book 0 1 0", 9);
                x.is("cheque 0 6", 2).is("cheque 0 7", 4).is("cheque 0 9", 2).is("book 1 1 0", 10);
                x.days(3).is("cheque 0 7", 1).is("cheque 0 6", 2).days(2).is("cheque 0 6", 3).is("look 0", 7);
                x.is("book 1 1 0", 0).is("cheque 0 9", 2).is("sums 3", 14);
            });
    }
}
