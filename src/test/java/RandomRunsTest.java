import java.util.ArrayList;
import java.util.Arrays;
import java.util.List;
import java.util.Random;

/** Promises 4 to 39: runs of calls at random, the class's answers against the model's. */
public final class RandomRunsTest {
    private static final int RUNS = 1600;
    private static final int CALLS = 110;
    /** So many chips come one behind the other on an object. */
    private static final int CHIPS = 4;

    private final Check check = new Check();
    private final int[] refused = new int[6];
    private String run = "";
    private Random random = new Random(0);
    private FlashPages x = new FlashPages();
    private Model model;
    private int[] image = new int[0];
    private Model.State imaged;

    public static void main(String[] args) {
        RandomRunsTest test = new RandomRunsTest();
        for (int i = 0; i < RUNS && test.check.isClean(); i++) {
            test.go(i);
        }
        test.check.finish();
    }

    private void go(int number) {
        Chips chips = new Chips(number);
        random = chips.random;
        String text = chips.text();
        run = "run " + number + " (" + text + "): ";
        imaged = null;
        Model former = model;
        model = new Model(chips.told);
        if (number % CHIPS == 0) {
            x = new FlashPages();
            Arrays.fill(refused, 0);
            image = new int[0];
        } else {
            model.seed = former.seed;
        }
        check.due(run + "chip()", Check.chip(x, text), chips.statements.size());
        check.due(run + "fault(0)", x.fault(0), 0);
        check.due(run + "fault(1)", x.fault(1), -1);
        askOfCode();
        for (int i = 0; i < chips.told.names.size(); i++) {
            for (int k = -1; k < 7; k++) {
                String name = chips.told.names.get(i);
                int due = k < 0 || k > 5 ? -1 : k < name.length() ? name.charAt(k) - 'a' + 1 : 0;
                check.due(run + "letter(" + i + "," + k + ")", x.letter(i, k), due);
            }
        }
        for (int i = 0; i < CALLS && check.isClean(); i++) {
            if (random.nextInt(3) == 0) {
                act();
            } else {
                ask();
            }
        }
        for (int what = 0; what < 6; what++) {
            check.due(run + "status(" + what + ")", x.status(what), refused[what]);
        }
    }

    private void askOfCode() {
        int k = random.nextInt(model.n);
        check.due(run + "field(" + k + ",0)", x.field(k, 0), model.power(k));
        check.due(run + "field(" + k + ",2)", x.field(k, 2), model.minimal(k));
        check.due(run + "field(" + (k + 1) + ",1)", x.field(k + 1, 1), model.log(k + 1));
        for (int i = 0; i < 63; i++) {
            boolean due = i < model.generator.length && model.generator[i];
            check.due(run + "generator(" + i + ")", x.generator(i), due ? 1 : 0);
        }
        int ones = random.nextInt(model.cells + 1);
        check.due(run + "weight(" + ones + ")", x.weight(ones), model.weight(ones));
    }

    private int among(int least, int most) {
        return least + random.nextInt(most - least + 1);
    }

    private int page() {
        return random.nextInt(20) == 0 ? among(-2, 7) : random.nextInt(model.state.leaves.length);
    }

    private int threshold() {
        return random.nextInt(10) == 0 ? among(-2, 102) : among(0, 100);
    }

    private void ask() {
        int page = page();
        int at = threshold();
        int what = among(-2, 8);
        String of = run + "call(" + page + "," + at + "," + what + ") ";
        switch (random.nextInt(16)) {
            case 0:
                int which = among(-1, 11);
                check.due(of + "has " + which, x.has(which), model.has(which));
                break;
            case 1: check.due(of + "page", x.page(page, what), model.page(page, what)); break;
            case 2:
                int cell = among(-1, model.cells);
                int ahead = random.nextInt(10) == 0 ? among(-1, 42) : among(0, 12);
                check.due(of + "level " + cell + " " + ahead, x.level(page, cell, ahead), model.level(page, cell, ahead));
                break;
            case 3: check.due(of + "ones", x.ones(page, at), model.ones(page, at)); break;
            case 4:
                int j = among(-1, 11);
                check.due(of + "syndrome " + j, x.syndrome(page, at, j), model.syndrome(page, at, j));
                break;
            case 5: check.due(of + "locator", x.locator(page, at, what), model.locator(page, at, what)); break;
            case 6: check.due(of + "wrong", x.wrong(page, at, what), model.wrong(page, at, what)); break;
            case 7: check.due(of + "why", x.why(page, at), model.why(page, at)); break;
            case 8: check.due(of + "got", x.got(page, what), model.got(page, what)); break;
            case 9: check.due(of + "span", x.span(page, what), model.span(page, what)); break;
            case 10: check.due(of + "lost", x.lost(page), model.lost(page)); break;
            case 11:
                if (random.nextInt(6) == 0) {
                    check.due(of + "odds", x.odds(page), model.odds(page));
                }
                break;
            case 12: check.due(of + "shifts", x.shifts(page, what), model.shifts(page, what)); break;
            case 13: check.due(of + "tells", x.tells(page, what), model.tells(page, what)); break;
            case 14:
                int k = among(-1, 41);
                check.due(of + "kept " + k, x.kept(k, what), model.kept(k, what));
                break;
            default: askWord(); break;
        }
    }

    private void askWord() {
        int high = high();
        int low = low();
        int k = among(-1, model.cells);
        int due = -1;
        if (model.isData(high, low) && k >= 0 && k < model.cells) {
            due = model.word((long) high << 30 | low)[k] ? 1 : 0;
        }
        check.due(run + "word(" + high + "," + low + "," + k + ")", x.word(high, low, k), due);
    }

    private int high() {
        if (random.nextInt(20) == 0) {
            return random.nextInt();
        }
        return model.dataBits > 30 ? random.nextInt(1 << (model.dataBits - 30)) : 0;
    }

    private int low() {
        if (random.nextInt(20) == 0) {
            return random.nextInt();
        }
        return random.nextInt(1 << Math.min(30, model.dataBits));
    }

    private void act() {
        int page = page();
        switch (random.nextInt(11)) {
            case 0:
            case 1: {
                int high = high();
                int low = low();
                boolean due = model.write(page, high, low);
                refused[3] += due ? 0 : 1;
                check.due(run + "write(" + page + "," + high + "," + low + ")", x.write(page, high, low), due);
                break;
            }
            case 2: {
                if (random.nextInt(3) == 0) {
                    boolean due = model.erase(page);
                    refused[3] += due ? 0 : 1;
                    check.due(run + "erase(" + page + ")", x.erase(page), due);
                }
                break;
            }
            case 3:
            case 4: {
                int cell = among(-1, model.cells);
                boolean due = model.flip(page, cell);
                refused[3] += due ? 0 : 1;
                check.due(run + "flip(" + page + "," + cell + ")", x.flip(page, cell), due);
                break;
            }
            case 5: {
                int due = model.refresh(page);
                refused[3] += due < 0 ? 1 : 0;
                check.due(run + "refresh(" + page + ")", x.refresh(page), due);
                break;
            }
            case 6:
            case 7: {
                int n = random.nextInt(6) == 0 ? among(-1, 42) : among(1, 4);
                boolean bySeed = random.nextBoolean();
                int due = model.days(n, bySeed);
                refused[2] += due < 0 ? 1 : 0;
                check.due(run + "days " + bySeed + " " + n, bySeed ? x.chance(n) : x.days(n), due);
                check.due(run + "has(10)", x.has(10), model.seed);
                break;
            }
            case 8: {
                boolean due = model.undo();
                refused[4] += due ? 0 : 1;
                check.due(run + "undo()", x.undo(), due);
                break;
            }
            case 9: actOnMet(); break;
            default: actOnImage(); break;
        }
    }

    private void actOnMet() {
        if (random.nextBoolean()) {
            int seed = random.nextInt();
            refused[5] += seed < 0 ? 1 : 0;
            model.seed = seed < 0 ? model.seed : seed;
            check.due(run + "seed(" + seed + ")", x.seed(seed), seed >= 0);
            return;
        }
        int rows = random.nextInt(8) == 0 ? among(0, 18) : among(1, 2);
        int shift = among(-9, 9);
        int page = random.nextInt(model.state.leaves.length);
        int[] tape = new int[2 * rows];
        boolean isGood = rows >= 1 && rows <= 16;
        List<int[]> met = new ArrayList<>();
        for (int i = 0; i < rows; i++) {
            int at = random.nextInt(30) == 0 ? among(101, 255) : among(0, 100);
            int shifted = Math.max(0, Math.min(at - shift, 100));
            int ones = model.leaf(page) == null ? among(0, 63) : model.ones(page, shifted);
            ones = random.nextInt(30) == 0 ? 64 : ones;
            isGood &= at <= 100 && ones <= 63;
            tape[2 * i] = at;
            tape[2 * i + 1] = ones;
            met.add(new int[] {at, ones});
        }
        Check.feed(x, tape);
        refused[5] += isGood ? 0 : 1;
        model.met = isGood ? met : model.met;
        check.due(run + "meet()", x.meet(), isGood ? rows : -1);
        check.due(run + "has(8)", x.has(8), model.met.size());
    }

    private void actOnImage() {
        if (imaged == null || random.nextBoolean()) {
            image = model.image();
            imaged = model.state.copy();
            check.due(run + "image()", x.image(), image.length);
            for (int i = 0; i < 4; i++) {
                int k = among(-1, image.length);
                check.due(run + "octet(" + k + ")", x.octet(k), k < 0 || k >= image.length ? -1 : image[k]);
            }
            check.due(run + "octet(last)", x.octet(image.length - 1), image[image.length - 1]);
            return;
        }
        int[] tape = image.clone();
        boolean isGood = random.nextInt(3) > 0;
        if (!isGood) {
            tape[random.nextInt(tape.length)] ^= 1 + random.nextInt(127);
        }
        Check.feed(x, tape);
        // A changed byte always changes the sum at the end, 5 and 251 having no common part.
        check.due(run + "on()", x.on(), isGood);
        refused[5] += isGood ? 0 : 1;
        if (isGood) {
            model.restart(imaged);
        }
    }
}
