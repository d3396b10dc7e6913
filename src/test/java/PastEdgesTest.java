/** The boundary cases of promises 38 to 41: no calls kept, the first and the last one, and who was not there then. */
final class PastEdgesTest {
    public static void main(String[] args) {
        callsOfANewObject();
        callsBehindEachKeptCall();
        callsBehindRefusedCalls();
        callsBehindQuestions();
        pastOfANewObject();
        pastBeyondTheCalls();
        pastOfNoSuchPlayer();
        pastOfPlayersWhoJoinedLater();
        pastBehindNoCallAndAll();
        pastBehindEachCall();
        pastBehindTheLastCallIsThePresent();
        pastInAnyOrder();
        pastBehindFights();
        pastBehindGoodsThatWereHeld();
        pastBehindRefusedCalls();
        Check.finish("PastEdgesTest");
    }

    // ---- promise 38

    private static void callsOfANewObject() {
        Check.due("no calls", new MudCouncil().calls(), 0);
    }

    private static void callsBehindEachKeptCall() {
        Edges.Play[] kept = {
            x -> x.link(0, 0, 1), x -> x.shop(0, 50), x -> x.stock(0, 0, 5, 2), x -> x.scatter(0, 1, 5),
            x -> x.join(0, 50, 0), x -> x.join(0, 50, 0), x -> x.quest(0), x -> x.stage(0, 0, 7, 0), x -> x.endow(1),
            x -> x.seed(1), x -> x.say(1), x -> x.shout(1), x -> x.take(1), x -> x.take(1), x -> x.give(1, 1),
            x -> x.pay(0, 1), x -> x.buy(0), x -> x.drop(1), x -> x.sell(0), x -> x.rest(), x -> x.rest(),
            x -> x.attack(0), x -> x.go(0)};
        MudCouncil x = new MudCouncil();
        for (int i = 0; i < kept.length; i++) {
            Check.due("calls ahead of call " + i, x.calls(), i);
            kept[i].on(x);
            Check.due("calls behind call " + i, x.calls(), i + 1);
        }
    }

    private static void callsBehindRefusedCalls() {
        MudCouncil x = new MudCouncil();
        for (int i = 0; i < 20; i++) {
            Check.thrownBy(() -> x.rest());
            Check.thrownBy(() -> x.link(0, 0, 0));
            Check.thrownBy(() -> x.seed(-1));
            Check.thrownBy(() -> x.stock(0, 0, 0, 0));
        }
        Check.due("all were refused", x.calls(), 0);
        x.endow(1);
        Check.due("the first kept", x.calls(), 1);
    }

    private static void callsBehindQuestions() {
        MudCouncil x = Edges.made(Edges::busy);
        int calls = x.calls();
        Edges.now(x);
        Check.due("questions are not kept", x.calls(), calls);
    }

    // ---- promises 39 to 41

    private static void pastOfANewObject() {
        Check.due("turn after none", new MudCouncil().turnAfter(0), MudCouncil.NONE);
        for (int calls : Edges.beyond(0, 0)) {
            Edges.outOfBounds("turn after " + calls + " of none", Edges::nothing, x -> x.turnAfter(calls));
        }
        for (int player : Edges.beyond(0, -1)) {
            Edges.outOfBounds("room of " + player, Edges::nothing, x -> x.roomAfter(0, player));
            Edges.outOfBounds("coins of " + player, Edges::nothing, x -> x.coinsAfter(0, player));
        }
    }

    private static void pastBeyondTheCalls() {
        int most = Edges.made(Edges::busy).calls();
        for (int calls : Edges.beyond(0, most)) {
            Edges.outOfBounds("turn after " + calls, Edges::busy, x -> x.turnAfter(calls));
            Edges.outOfBounds("room after " + calls, Edges::busy, x -> x.roomAfter(calls, 0));
            Edges.outOfBounds("coins after " + calls, Edges::busy, x -> x.coinsAfter(calls, 0));
            Edges.outOfBounds("room of nobody after " + calls, Edges::busy, x -> x.roomAfter(calls, 4));
            Edges.outOfBounds("coins of nobody after " + calls, Edges::busy, x -> x.coinsAfter(calls, -1));
        }
    }

    private static void pastOfNoSuchPlayer() {
        int most = Edges.made(Edges::busy).calls();
        for (int player : Edges.beyond(0, 2)) {
            Edges.outOfBounds("room of " + player, Edges::busy, x -> x.roomAfter(most, player));
            Edges.outOfBounds("coins of " + player, Edges::busy, x -> x.coinsAfter(most, player));
        }
        Edges.Play four = x -> Edges.each(4, player -> x.join(player, 10 * player, 0));
        MudCouncil x = Edges.made(four);
        Edges.each(4, player -> Check.due("room of " + player, x.roomAfter(4, player), player));
        Edges.each(4, player -> Check.due("coins of " + player, x.coinsAfter(4, player), 10 * player));
        for (int player : Edges.beyond(0, 3)) {
            Edges.outOfBounds("room of " + player + " of four", four, y -> y.roomAfter(4, player));
            Edges.outOfBounds("coins of " + player + " of four", four, y -> y.coinsAfter(4, player));
        }
    }

    private static void pastOfPlayersWhoJoinedLater() {
        Edges.Play world = x -> Edges.each(4, player -> {
            x.endow(1);
            x.join(7 - player, 20 + player, 0);
        });
        Edges.each(4, player -> {
            for (int calls = 0; calls <= 8; calls++) {
                int after = calls;
                if (calls < 2 * player + 2) {
                    Edges.outOfBounds("room of " + player + " after " + calls, world, x -> x.roomAfter(after, player));
                    Edges.outOfBounds("coins of " + player + " after " + calls, world, x -> x.coinsAfter(after, player));
                } else {
                    Check.due("room after " + calls, Edges.made(world).roomAfter(after, player), 7 - player);
                    Check.due("coins after " + calls, Edges.made(world).coinsAfter(after, player), 20 + player);
                }
            }
        });
    }

    private static void pastBehindNoCallAndAll() {
        MudCouncil x = new MudCouncil();
        x.link(6, MudCouncil.SOUTH, 2);
        x.join(6, 17, 0);
        x.go(MudCouncil.SOUTH);
        Check.due("turn after none", x.turnAfter(0), MudCouncil.NONE);
        Check.due("turn after the first", x.turnAfter(1), MudCouncil.NONE);
        Check.due("turn after the second", x.turnAfter(2), 0);
        Check.due("turn after all", x.turnAfter(3), 0);
        Check.due("room ahead of the last", x.roomAfter(2, 0), 6);
        Check.due("room after all", x.roomAfter(3, 0), 2);
        Check.due("coins after all", x.coinsAfter(3, 0), 17);
    }

    // Each act that moves a player or coins, with what is told of player 0 behind it.
    private static void pastBehindEachCall() {
        MudCouncil x = new MudCouncil();
        x.shop(0, 50);
        x.stock(0, 0, 5, 8);
        x.join(0, 50, 6);
        x.join(0, 30, 0);
        x.endow(4);
        x.quest(100);
        x.stage(0, MudCouncil.HOLD, 0, 1);
        x.link(0, MudCouncil.WEST, 5);
        x.buy(0);
        x.pay(0, 7);
        x.sell(0);
        x.rest();
        x.go(MudCouncil.WEST);
        int[] turns = {-1, -1, -1, 0, 0, 0, 0, 0, 0, 1, 0, 1, 0, 1};
        int[] coins = {-1, -1, -1, 50, 50, 50, 50, 50, 50, 46, 53, 57, 57, 57};
        for (int calls = 3; calls <= 13; calls++) {
            Check.due("coins after " + calls, x.coinsAfter(calls, 0), coins[calls]);
            Check.due("room after " + calls, x.roomAfter(calls, 0), calls < 13 ? 0 : 5);
        }
        for (int calls = 0; calls <= 13; calls++) {
            Check.due("turn after " + calls, x.turnAfter(calls), turns[calls]);
        }
        Check.due("coins of the other one ahead of paying", x.coinsAfter(9, 1), 30);
        Check.due("coins of the other one behind paying", x.coinsAfter(10, 1), 23);
    }

    private static void pastBehindTheLastCallIsThePresent() {
        MudCouncil x = Edges.made(Edges::busy);
        int calls = x.calls();
        Check.due("turn", x.turnAfter(calls), x.turn());
        Edges.each(3, player -> Check.due("room", x.roomAfter(calls, player), x.roomOf(player)));
        Edges.each(3, player -> Check.due("coins", x.coinsAfter(calls, player), x.coinsOf(player)));
    }

    private static void pastInAnyOrder() {
        MudCouncil x = new MudCouncil();
        x.link(0, MudCouncil.EAST, 1);
        x.join(0, 5, 0);
        x.go(MudCouncil.EAST);
        x.join(3, 6, 0);
        for (int i = 0; i < 3; i++) {
            Check.due("last", x.roomAfter(4, 1), 3);
            Check.due("none", x.turnAfter(0), MudCouncil.NONE);
            Check.outOfBounds("not there then", () -> x.roomAfter(3, 1));
            Check.due("room ahead", x.roomAfter(2, 0), 0);
            Check.outOfBounds("not so many", () -> x.turnAfter(5));
            Check.due("room behind", x.roomAfter(3, 0), 1);
            Check.outOfBounds("no player then", () -> x.coinsAfter(1, 0));
            Check.due("turn", x.turnAfter(4), 1);
        }
        x.rest();
        Check.due("one call more", x.turnAfter(5), 0);
        Check.due("present", x.roomOf(0), 1);
    }

    // Without seed() the die begins with 1 each time the calls are played, with it as it was set.
    private static void pastBehindFights() {
        MudCouncil x = new MudCouncil();
        x.join(4, 9, 0);
        x.join(4, 9, 6);
        x.attack(1);
        Check.due("beaten", x.roomOf(0), 0);
        x.join(4, 9, 0);
        x.say(1);
        x.seed(6);
        Check.due("turn", x.turn(), 2);
        x.say(1);
        Check.due("turn", x.turn(), 1);
        Check.due("beaten, too", x.attack(2), 2);
        for (int i = 0; i < 2; i++) {
            Check.due("room ahead of the first fight", x.roomAfter(2, 0), 4);
            Check.due("room behind the first fight", x.roomAfter(3, 0), 0);
            Check.due("coins behind the first fight", x.coinsAfter(3, 1), 13);
            Check.due("room ahead of the second fight", x.roomAfter(7, 2), 4);
            Check.due("room behind the second fight", x.roomAfter(8, 2), 0);
            Check.due("coins behind the second fight", x.coinsAfter(8, 1), 17);
        }
    }

    // What was held, reached and paid when the calls were played before is forgotten when they are played once more.
    private static void pastBehindGoodsThatWereHeld() {
        MudCouncil x = new MudCouncil();
        x.quest(9);
        x.stage(0, MudCouncil.HOLD, 2, 2);
        x.endow(12);
        x.join(0, 0, 0);
        x.scatter(0, 2, 2);
        x.take(2);
        x.rest();
        x.take(2);
        for (int i = 0; i < 3; i++) {
            Check.due("one held", x.coinsAfter(6, 0), 0);
            Check.due("still one held", x.coinsAfter(7, 0), 0);
            Check.due("two held", x.coinsAfter(8, 0), 9);
        }
        Check.due("purse", x.purse(), 3);
    }

    private static void pastBehindRefusedCalls() {
        MudCouncil x = new MudCouncil();
        Check.thrownBy(() -> x.say(0));
        x.join(0, 5, 0);
        Check.thrownBy(() -> x.join(0, 201, 0));
        Check.thrownBy(() -> x.go(0));
        x.join(0, 0, 0);
        Check.thrownBy(() -> x.pay(1, 6));
        x.pay(1, 5);
        Check.due("calls", x.calls(), 3);
        Check.due("turn after the first", x.turnAfter(1), 0);
        Check.due("turn after the second", x.turnAfter(2), 0);
        Check.due("turn after the third", x.turnAfter(3), 1);
        Check.due("coins after the second", x.coinsAfter(2, 0), 5);
        Check.due("coins after the third", x.coinsAfter(3, 1), 5);
        Check.outOfBounds("there was no fourth", () -> x.coinsAfter(4, 0));
    }
}
