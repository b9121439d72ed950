import java.util.NoSuchElementException;

/** The sentences of promises 32 and 33, and of the term 'Pictures', that name a bound. */
public final class PictureBoundsTest {
    public static void main(String[] args) {
        Bounds b = new Bounds();
        sideIsOddFromThreeToNine(b);
        chipsAreNoneToThreeHundred(b);
        refusedPictureLeavesTheOneBefore(b);
        bothOutOfRangeIsOneRefusal(b);
        chipsAreInTheMiddle(b);
        cellsToppleWithFour(b);
        borderSwallows(b);
        cornersToppleToo(b);
        newPictureIsInPlaceOfTheOneBefore(b);
        pixelNeedsPicture(b);
        pixelNeedsCell(b);
        pixelRefusesInTheOrderListed(b);
        pictureLeavesTheGardenAlone(b);
        b.end();
    }

    private static Bounds.Maker pictured(int side, int chips) {
        return () -> {
            Chipfold x = new Chipfold();
            x.picture(side, chips);
            return x;
        };
    }

    /** "an odd side from 3 to 9": "Throws ... if the side or the number is out of range". */
    private static void sideIsOddFromThreeToNine(Bounds b) {
        for (int side = 3; side <= 9; side += 2) {
            int width = side;
            b.answers("picture of " + side, 1, Chipfold::new, x -> x.picture(width, 4));
        }
        int[] refused = {Integer.MIN_VALUE, -9, -5, -4, -3, -2, -1, 0, 1, 2, 4, 6, 8, 10, 11, 13,
            Integer.MAX_VALUE};
        for (int side : refused) {
            b.refuses("picture of " + side, Bounds.ARGUMENT, pictured(5, 40),
                    x -> x.picture(side, 4));
            b.refuses("a first picture of " + side, Bounds.ARGUMENT, Chipfold::new,
                    x -> x.picture(side, 0));
        }
    }

    /** "the chips, 0 to 300". */
    private static void chipsAreNoneToThreeHundred(Bounds b) {
        for (int side = 3; side <= 9; side += 2) {
            int width = side;
            Model m = new Model();
            for (int chips : new int[] {0, 1, 299, 300}) {
                b.answers("picture with " + chips, m.picture(side, chips), Chipfold::new,
                        x -> x.picture(width, chips));
            }
            int[] refused = {-1, 301, Integer.MIN_VALUE, Integer.MAX_VALUE};
            for (int chips : refused) {
                b.refuses("picture with " + chips, Bounds.ARGUMENT, pictured(7, 100),
                        x -> x.picture(width, chips));
                b.refuses("a first picture with " + chips, Bounds.ARGUMENT, Chipfold::new,
                        x -> x.picture(width, chips));
            }
        }
    }

    private static void refusedPictureLeavesTheOneBefore(Bounds b) {
        Bounds.On[] wrong = {x -> x.picture(4, 9), x -> x.picture(11, 9), x -> x.picture(1, 9),
            x -> x.picture(3, -1), x -> x.picture(3, 301)};
        for (Bounds.On call : wrong) {
            b.answers("the last cell after a refusal", 0, pictured(9, 5), x -> {
                Check.answerOf(() -> call.answer(x));
                return x.pixel(80);
            });
            b.answers("the middle after a refusal", 1, pictured(9, 5), x -> {
                Check.answerOf(() -> call.answer(x));
                return x.pixel(40);
            });
            b.refuses("no picture after a refusal", NoSuchElementException.class,
                    Chipfold::new, x -> {
                        Check.answerOf(() -> call.answer(x));
                        return x.pixel(0);
                    });
        }
    }

    private static void bothOutOfRangeIsOneRefusal(Bounds b) {
        b.refuses("picture(2, -1)", Bounds.ARGUMENT, pictured(3, 7), x -> x.picture(2, -1));
        b.refuses("picture(11, 301)", Bounds.ARGUMENT, pictured(3, 7),
                x -> x.picture(11, 301));
    }

    /** "chips are put on the cell in the middle". */
    private static void chipsAreInTheMiddle(Bounds b) {
        for (int side = 3; side <= 9; side += 2) {
            int middle = side * side / 2;
            for (int cell = 0; cell < side * side; cell++) {
                int number = cell;
                b.answers("a cell of " + side, cell == middle ? 3 : 0, pictured(side, 3),
                        x -> x.pixel(number));
            }
        }
    }

    private static void cellsAre(Bounds b, String name, Bounds.Maker maker, int... cells) {
        for (int i = 0; i < cells.length; i++) {
            int cell = i;
            b.asks(name + ": pixel(" + i + ")", cells[i], maker, x -> x.pixel(cell));
        }
    }

    /** "A cell with at least 4 topples: each of the four cells beside it gets one". */
    private static void cellsToppleWithFour(Bounds b) {
        b.answers("3 do not topple", 0, Chipfold::new, x -> x.picture(3, 3));
        b.answers("4 topple", 1, Chipfold::new, x -> x.picture(3, 4));
        b.answers("7 topple once", 1, Chipfold::new, x -> x.picture(3, 7));
        b.answers("8 topple twice", 2, Chipfold::new, x -> x.picture(3, 8));
        cellsAre(b, "3 chips", pictured(3, 3), 0, 0, 0, 0, 3, 0, 0, 0, 0);
        cellsAre(b, "4 chips", pictured(3, 4), 0, 1, 0, 1, 0, 1, 0, 1, 0);
        cellsAre(b, "7 chips", pictured(3, 7), 0, 1, 0, 1, 3, 1, 0, 1, 0);
        cellsAre(b, "8 chips", pictured(3, 8), 0, 2, 0, 2, 0, 2, 0, 2, 0);
        cellsAre(b, "15 chips", pictured(3, 15), 0, 3, 0, 3, 3, 3, 0, 3, 0);
    }

    /** "or the border swallows it". */
    private static void borderSwallows(Bounds b) {
        // The sides come to 4 at once with the middle's 16; each gives one up to the border.
        cellsAre(b, "16 chips", pictured(3, 16), 2, 1, 2, 1, 0, 1, 2, 1, 2);
        b.answers("topplings of 16", 9, Chipfold::new, x -> x.picture(3, 16));
        cellsAre(b, "16 chips with room", pictured(5, 16),
                0, 0, 1, 0, 0,
                0, 2, 1, 2, 0,
                1, 1, 0, 1, 1,
                0, 2, 1, 2, 0,
                0, 0, 1, 0, 0);
    }

    private static void cornersToppleToo(Bounds b) {
        for (int side = 3; side <= 9; side += 2) {
            Model m = new Model();
            m.picture(side, 300);
            int all = side * side;
            int[] cells = new int[all];
            for (int cell = 0; cell < all; cell++) {
                cells[cell] = m.pixel(cell);
            }
            cellsAre(b, "300 chips in " + side, pictured(side, 300), cells);
        }
    }

    /** "Makes a picture, in place of the one before." */
    private static void newPictureIsInPlaceOfTheOneBefore(Bounds b) {
        Bounds.Maker smaller = () -> {
            Chipfold x = new Chipfold();
            x.picture(9, 300);
            x.picture(3, 4);
            return x;
        };
        cellsAre(b, "a smaller one", smaller, 0, 1, 0, 1, 0, 1, 0, 1, 0);
        b.refuses("a cell of the greater one before", Bounds.INDEX, smaller, x -> x.pixel(9));
        Bounds.Maker greater = () -> {
            Chipfold x = new Chipfold();
            x.picture(3, 300);
            x.picture(5, 0);
            return x;
        };
        cellsAre(b, "a greater one", greater, new int[25]);
        b.refuses("a cell behind the greater one", Bounds.INDEX, greater, x -> x.pixel(25));
        b.asks("the same one again", new Model().picture(3, 100), pictured(3, 100),
                x -> x.picture(3, 100));
    }

    /** "Throws NoSuchElementException if there is no picture". */
    private static void pixelNeedsPicture(Bounds b) {
        b.refuses("pixel(0) of none", NoSuchElementException.class, Chipfold::new,
                x -> x.pixel(0));
        b.answers("pixel(0) of an empty one", 0, pictured(3, 0), x -> x.pixel(0));
    }

    /** "Throws IndexOutOfBoundsException if there is no such cell". */
    private static void pixelNeedsCell(Bounds b) {
        for (int side = 3; side <= 9; side += 2) {
            int all = side * side;
            b.answers("the first cell", 0, pictured(side, 4), x -> x.pixel(0));
            b.answers("the last cell", 0, pictured(side, 4), x -> x.pixel(all - 1));
            int[] refused = {-1, all, all + 1, Integer.MIN_VALUE, Integer.MAX_VALUE};
            for (int cell : refused) {
                b.refuses("pixel(" + cell + ") of " + side, Bounds.INDEX, pictured(side, 4),
                        x -> x.pixel(cell));
            }
        }
    }

    /** The picture is listed before the cell. */
    private static void pixelRefusesInTheOrderListed(Bounds b) {
        for (int cell : new int[] {-1, 9, 81, Integer.MIN_VALUE, Integer.MAX_VALUE}) {
            b.refuses("pixel(" + cell + ") of none", NoSuchElementException.class,
                    Chipfold::new, x -> x.pixel(cell));
        }
    }

    private static void pictureLeavesTheGardenAlone(Bounds b) {
        Chipfold x = Bounds.lived();
        x.picture(9, 300);
        x.picture(5, 30);
        b.sameAs("pictures", Bounds::lived, x);
    }
}
