/** Promises 38 to 41: the world as it was. */
final class PastTest {
    public static void main(String[] args) {
        promise38Calls();
        promises39To41OfAShortRun();
        promises39To41OfAFight();
        promises39To41OfTheLongestRun();
        pastIsForgottenInBetween();
        dieAndGoodsStartAnew();
        Check.finish("PastTest");
    }

    private static void promise38Calls() {
        MudCouncil x = new MudCouncil();
        x.join(0, 50, 6);
        x.join(0, 9, 6);
        x.link(0, 0, 1);
        x.shop(0, 9);
        x.stock(0, 0, 0, 9);
        x.scatter(0, 0, 1);
        x.quest(0);
        x.stage(0, MudCouncil.VISIT, 1, 0);
        x.endow(1);
        x.seed(5);
        Check.due("behind each call that makes the world", x.calls(), 10);
        x.take(0);
        x.say(0);
        x.sell(0);
        x.shout(0);
        x.buy(0);
        x.rest();
        x.give(1, 0);
        x.pay(1, 1);
        x.drop(0);
        x.attack(1);
        x.go(0);
        Check.due("behind each act", x.calls(), 21);
        Check.thrownBy(() -> x.go(3));
        Check.thrownBy(() -> x.endow(0));
        Check.thrownBy(() -> x.join(8, 0, 0));
        Check.due("behind calls that threw", x.calls(), 21);
    }

    private static void promises39To41OfAShortRun() {
        MudCouncil x = new MudCouncil();
        x.link(5, MudCouncil.SOUTH, 6);
        x.join(5, 30, 0);
        x.go(MudCouncil.SOUTH);
        x.join(6, 0, 0);
        x.rest();
        x.pay(1, 11);
        int[] turns = {-1, -1, 0, 0, 1, 0, 1};
        int[] rooms = {-1, -1, 5, 6, 6, 6, 6};
        int[] coins = {-1, -1, 30, 30, 30, 30, 19};
        for (int calls = 0; calls <= 6; calls++) {
            int after = calls;
            Check.due("turn after " + calls, x.turnAfter(calls), turns[calls]);
            if (calls < 2) {
                Check.outOfBounds("room after " + calls, () -> x.roomAfter(after, 0));
                Check.outOfBounds("coins after " + calls, () -> x.coinsAfter(after, 0));
            } else {
                Check.due("room after " + calls, x.roomAfter(calls, 0), rooms[calls]);
                Check.due("coins after " + calls, x.coinsAfter(calls, 0), coins[calls]);
            }
        }
        Check.outOfBounds("player 1 ahead of joining", () -> x.roomAfter(3, 1));
        Check.due("player 1 behind joining", x.roomAfter(4, 1), 6);
        Check.due("player 1 paid", x.coinsAfter(6, 1), 11);
        for (int calls : new int[] {-1, 7, Integer.MIN_VALUE, Integer.MAX_VALUE}) {
            Check.outOfBounds("turn after " + calls, () -> x.turnAfter(calls));
            Check.outOfBounds("room after " + calls, () -> x.roomAfter(calls, 0));
            Check.outOfBounds("coins after " + calls, () -> x.coinsAfter(calls, 0));
        }
        for (int player : new int[] {-1, 2, 4, Integer.MIN_VALUE, Integer.MAX_VALUE}) {
            Check.outOfBounds("room of " + player, () -> x.roomAfter(6, player));
            Check.outOfBounds("coins of " + player, () -> x.coinsAfter(6, player));
        }
    }

    private static void promises39To41OfAFight() {
        MudCouncil x = new MudCouncil();
        x.quest(8);
        x.stage(0, MudCouncil.BEAT, 1, 0);
        x.endow(5);
        x.join(4, 10, 6);
        x.join(4, 31, 0);
        x.seed(6);
        x.attack(1);
        Check.due("the loser's room ahead", x.roomAfter(6, 1), 4);
        Check.due("the loser's room behind", x.roomAfter(7, 1), 0);
        Check.due("the loser's coins ahead", x.coinsAfter(6, 1), 31);
        Check.due("the loser's coins behind", x.coinsAfter(7, 1), 16);
        Check.due("the winner's coins with the reward", x.coinsAfter(7, 0), 10 + 15 + 5);
        Check.due("turn ahead", x.turnAfter(6), 0);
        Check.due("turn behind", x.turnAfter(7), 0);
        Check.due("purse now", x.purse(), 0);
        Check.due("coins now", x.coinsOf(0), 30);
    }

    // 512 calls in all, the questions too.
    private static void promises39To41OfTheLongestRun() {
        MudCouncil x = new MudCouncil();
        x.link(0, MudCouncil.NORTH, 1);
        x.join(0, 200, 0);
        for (int i = 0; i < 505; i++) {
            x.go(i % 2 == 0 ? MudCouncil.NORTH : MudCouncil.SOUTH);
        }
        Check.due("calls", x.calls(), 507);
        Check.due("room after all", x.roomAfter(507, 0), 1);
        Check.due("room after all but one", x.roomAfter(506, 0), 0);
        Check.due("turn after all", x.turnAfter(507), 0);
        Check.outOfBounds("room after one more", () -> x.roomAfter(508, 0));
    }

    private static void pastIsForgottenInBetween() {
        MudCouncil x = new MudCouncil();
        x.join(3, 7, 0);
        x.scatter(3, 0, 1);
        x.take(0);
        x.drop(0);
        for (int i = 0; i < 3; i++) {
            Check.due("room after all", x.roomAfter(4, 0), 3);
            Check.due("turn after none", x.turnAfter(0), MudCouncil.NONE);
            Check.due("coins after one", x.coinsAfter(1, 0), 7);
        }
        Check.due("floor now", x.onFloor(3, 0), 1);
    }

    // Without a call of seed() the die starts with the seed 1 each time: the actor of strength 0 is beaten then.
    private static void dieAndGoodsStartAnew() {
        MudCouncil x = new MudCouncil();
        x.join(4, 31, 0);
        x.join(4, 10, 6);
        x.attack(1);
        MudCouncil y = new MudCouncil();
        y.quest(9);
        y.stage(0, MudCouncil.HOLD, 2, 1);
        y.endow(9);
        y.join(0, 0, 0);
        y.scatter(0, 2, 1);
        y.rest();
        y.take(2);
        for (int i = 0; i < 3; i++) {
            Check.due("coins behind the fight", x.coinsAfter(3, 0), 16);
            Check.due("room behind the fight", x.roomAfter(3, 0), 0);
            Check.due("coins behind the take", y.coinsAfter(7, 0), 9);
            Check.due("coins ahead of the take", y.coinsAfter(6, 0), 0);
        }
    }
}
