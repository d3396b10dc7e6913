/**
 * "An object is used for at most 512 calls after it has been made": whatever the 511 calls ahead of it were, kept ones,
 * questions or refused ones, the 512th is answered as the document says.
 */
final class LastCallTest {
    public static void main(String[] args) {
        lastBehindQuestions();
        lastBehindRefusedCalls();
        lastKeptCalls();
        lastActs();
        lastQuestionsOfThePast();
        lastQuestionsOfThePastRefused();
        lastSums();
        lastWords();
        lastReadyTimes();
        laterCallsAreFree();
        Check.finish("LastCallTest");
    }

    private interface Call {
        int of(MudCouncil x);
    }

    private static Call plain(Edges.Play play) {
        return x -> {
            play.on(x);
            return 0;
        };
    }

    // The 512th calls, made on the busy world: most of them in two ways, of which one is refused.
    private static final Call[] CALLS = {
        plain(x -> x.link(2, 0, 3)), plain(x -> x.link(0, 0, 3)), plain(x -> x.shop(1, 5)), plain(x -> x.shop(0, 5)),
        x -> x.stock(0, 0, 2, 9), x -> x.stock(1, 0, 2, 9), x -> x.scatter(0, 4, 3), x -> x.scatter(0, 5, 3),
        x -> x.join(0, 1, 1), x -> x.join(0, 1, 7), x -> x.quest(7), x -> x.quest(101), x -> x.stage(0, 0, 0, 0),
        x -> x.stage(1, 0, 0, 0), x -> x.endow(5), x -> x.endow(0), plain(x -> x.seed(5)), plain(x -> x.seed(-1)),
        x -> x.go(0), x -> x.go(2), x -> x.say(42), x -> x.say(100), x -> x.shout(9), x -> x.shout(-1), x -> x.take(4),
        x -> x.take(0), x -> x.drop(4), x -> x.drop(0), x -> x.give(1, 4), x -> x.give(2, 4), x -> x.pay(1, 7),
        x -> x.pay(1, 101), x -> x.buy(0), x -> x.buy(4), x -> x.sell(4), x -> x.sell(0), x -> x.attack(1),
        x -> x.attack(2), x -> x.rest(), x -> x.turn(), x -> x.readyAt(2), x -> x.readyAt(3), x -> x.roomOf(2),
        x -> x.roomOf(3), x -> x.coinsOf(1), x -> x.coinsOf(3), x -> x.healthOf(0), x -> x.healthOf(3),
        x -> x.goodsOf(0, 4), x -> x.goodsOf(0, 5), x -> x.heard(0, 0), x -> x.heard(0, 1), x -> x.stageOf(1, 1),
        x -> x.stageOf(1, 2), x -> x.exit(7, 2), x -> x.exit(7, 4), x -> x.distance(1, 7), x -> x.distance(1, 8),
        x -> x.onFloor(7, 2), x -> x.onFloor(8, 2), x -> x.stockOf(0, 0), x -> x.stockOf(0, 5), x -> x.tillOf(0),
        x -> x.tillOf(8), x -> x.purse(), x -> x.allCoins(), x -> x.allGoods(4), x -> x.allGoods(5), x -> x.calls(),
        x -> x.roomAfter(12, 2), x -> x.roomAfter(12, 3), x -> x.coinsAfter(20, 1), x -> x.coinsAfter(99, 1),
        x -> x.turnAfter(19), x -> x.turnAfter(99)};

    private static MudCouncil busyBehind(Edges.Play filling) {
        MudCouncil x = new MudCouncil();
        Edges.busy(x);
        int made = x.calls() + 1;
        for (int i = made; i < Edges.MOST_CALLS - 1; i++) {
            filling.on(x);
        }
        return x;
    }

    private static void compareLast(String what, Edges.Play filling) {
        for (int i = 0; i < CALLS.length; i++) {
            Call call = CALLS[i];
            MudCouncil x = busyBehind(filling);
            MudCouncil y = Edges.made(Edges::busy);
            Check.due(what + ", call " + i, Edges.outcome(() -> call.of(x)), Edges.outcome(() -> call.of(y)));
        }
    }

    private static void lastBehindQuestions() {
        compareLast("behind purse()", x -> x.purse());
        compareLast("behind turnAfter()", x -> x.turnAfter(20));
        compareLast("behind distance()", x -> x.distance(1, 7));
    }

    private static void lastBehindRefusedCalls() {
        compareLast("behind refused acts", x -> Check.thrownBy(() -> x.go(2)));
        compareLast("behind refused links", x -> Check.thrownBy(() -> x.link(0, 0, 0)));
        compareLast("behind refused questions", x -> Check.thrownBy(() -> x.turnAfter(99)));
    }

    // ---- behind calls that are all kept

    private static MudCouncil kept(int calls, Edges.Play first, Edges.Play others) {
        MudCouncil x = new MudCouncil();
        first.on(x);
        for (int i = 1; i < calls; i++) {
            others.on(x);
        }
        return x;
    }

    private static void lastKeptCalls() {
        Edges.Play endow = x -> x.endow(1);
        Check.due("calls", kept(511, endow, endow).calls(), 511);
        Check.due("purse", kept(511, endow, endow).purse(), 511);
        Check.due("endow", kept(511, endow, endow).endow(1), 512);
        Check.due("scatter", kept(511, endow, endow).scatter(7, 4, 9), 9);
        Check.due("join", kept(511, endow, endow).join(7, 200, 6), 0);
        Check.due("quest", kept(511, endow, endow).quest(100), 0);
        Check.due("turn", kept(511, endow, endow).turn(), MudCouncil.NONE);
    }

    private static void lastActs() {
        Edges.Play join = x -> x.join(0, 200, 0);
        Edges.Play rest = x -> x.rest();
        Check.due("calls", kept(511, join, rest).calls(), 511);
        Check.due("turn", kept(511, join, rest).turn(), 0);
        Check.due("rest", kept(511, join, rest).rest(), 20);
        Check.due("say", kept(511, join, rest).say(0), 0);
        Check.due("the second player", kept(511, join, rest).join(0, 0, 0), 1);
        Check.illegalState("go", () -> kept(511, join, rest).go(0));
        Check.illegalState("attack", () -> kept(511, join, rest).attack(0));
        Check.outOfBounds("attack nobody", () -> kept(511, join, rest).attack(1));
    }

    private static MudCouncil walked(int calls) {
        MudCouncil x = new MudCouncil();
        x.link(2, MudCouncil.NORTH, 5);
        x.join(2, 123, 0);
        x.join(6, 77, 0);
        for (int i = 3; i < calls; i++) {
            // The players go or rest by turns, as both acts cost 2.
            if (i % 2 == 0) {
                x.rest();
            } else {
                x.go(x.roomOf(0) == 2 ? MudCouncil.NORTH : MudCouncil.SOUTH);
            }
        }
        return x;
    }

    // walked(300) makes 449 calls, as it asks for the room ahead of each go(), so that 63 are left.
    private static void lastQuestionsOfThePast() {
        MudCouncil x = walked(300);
        for (int calls = 240; calls <= 300; calls++) {
            int steps = (calls - 2) / 2;
            Check.due("room after " + calls, x.roomAfter(calls, 0), steps % 2 == 0 ? 2 : 5);
        }
        Edges.Play join = y -> y.join(3, 123, 0);
        Edges.Play rest = y -> y.rest();
        Check.due("room", kept(511, join, rest).roomAfter(511, 0), 3);
        Check.due("coins", kept(511, join, rest).coinsAfter(511, 0), 123);
        Check.due("turn", kept(511, join, rest).turnAfter(511), 0);
        Check.due("room behind the first", kept(511, join, rest).roomAfter(1, 0), 3);
        Check.due("turn behind none", kept(511, join, rest).turnAfter(0), MudCouncil.NONE);
        Check.due("the last of 510", kept(510, join, rest).turnAfter(510), 0);
        Edges.Play endow = y -> y.endow(1000);
        MudCouncil late = kept(510, endow, endow);
        late.join(7, 200, 6);
        Check.due("one who joined with call 511", late.coinsAfter(511, 0), 200);
    }

    private static void lastQuestionsOfThePastRefused() {
        Edges.Play join = x -> x.join(3, 123, 0);
        Edges.Play rest = x -> x.rest();
        Check.outOfBounds("room after 512 of 511", () -> kept(511, join, rest).roomAfter(512, 0));
        Check.outOfBounds("coins after 512 of 511", () -> kept(511, join, rest).coinsAfter(512, 0));
        Check.outOfBounds("turn after 512 of 511", () -> kept(511, join, rest).turnAfter(512));
        Check.outOfBounds("turn after -1", () -> kept(511, join, rest).turnAfter(-1));
        Check.outOfBounds("nobody joined first", () -> kept(511, join, rest).roomAfter(0, 0));
        Check.outOfBounds("the second player", () -> kept(511, join, rest).coinsAfter(511, 1));
        MudCouncil late = kept(510, x -> x.endow(1), x -> x.endow(1));
        late.join(7, 200, 6);
        Check.outOfBounds("one who joined with call 511", () -> late.roomAfter(510, 0));
    }

    private static void lastSums() {
        Edges.Play endow = x -> x.endow(1000);
        Check.due("the fullest purse", kept(511, endow, endow).endow(1000), 512000);
        Check.due("all its coins", kept(511, endow, endow).allCoins(), 511000);
        Edges.Play scatter = x -> x.scatter(7, 4, 9);
        Check.due("the fullest floor", kept(511, scatter, scatter).scatter(7, 4, 9), 512 * 9);
        Check.due("all its goods", kept(511, scatter, scatter).allGoods(4), 511 * 9);
        Edges.Play stock = x -> x.stock(7, 4, 20, 50);
        Check.due("the fullest stock", kept(511, x -> x.shop(7, 0), stock).stock(7, 4, 20, 50), 511 * 20);
    }

    private static void lastWords() {
        MudCouncil x = new MudCouncil();
        x.join(0, 0, 0);
        x.join(0, 0, 0);
        for (int i = 2; i < 511; i++) {
            x.say(i % 100);
        }
        // Call i was made by player 0 for an even i.
        Check.due("the latest of player 1", x.heard(1, 0), 510 % 100);
        MudCouncil y = new MudCouncil();
        y.join(0, 0, 0);
        y.join(0, 0, 0);
        for (int i = 2; i < 511; i++) {
            y.say(i % 100);
        }
        Check.due("the oldest of player 0", y.heard(0, 5), 100 + 499 % 100);
    }

    private static void lastReadyTimes() {
        Edges.Play join = x -> x.join(0, 0, 0);
        Check.due("behind 510 rests", kept(511, join, x -> x.rest()).readyAt(0), 1020);
        MudCouncil x = new MudCouncil();
        x.join(0, 0, 0);
        x.join(0, 0, 0);
        for (int i = 2; i < 511; i++) {
            x.rest();
        }
        Check.due("255 rests of 509", x.readyAt(0), 510);
    }

    // What later calls answer is free, but the machine itself may not throw in them.
    private static void laterCallsAreFree() {
        Edges.Play endow = x -> x.endow(1);
        MudCouncil x = kept(600, endow, endow);
        Check.due("a kept call", Check.thrownBy(() -> x.endow(1)), null);
        Check.due("a player", Check.thrownBy(() -> x.join(0, 0, 0)), null);
        Check.due("an act", Check.thrownBy(() -> x.rest()), null);
        Check.due("a question of the past", Check.thrownBy(() -> x.turnAfter(x.calls())), null);
    }
}
