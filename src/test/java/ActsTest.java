/** Promises 11 to 21: the acts, with their turns, talk, shops and fights. */
final class ActsTest {
    public static void main(String[] args) {
        withoutPlayers();
        promise11Go();
        promise12Say();
        promise13Shout();
        promise13ShoutByTwoExits();
        promise13ShoutInEachDirection();
        promise14Take();
        promise15Drop();
        promise16Give();
        promise17Pay();
        promise18Buy();
        promise19Sell();
        promise20NobodyBeaten();
        promise20RivalBeaten();
        promise20ActorBeaten();
        promise20OthersKeepTheirs();
        promise20TiesAndHealthOfOne();
        promise20ReadyTimeNotLess();
        promise20Refuses();
        promise21Rest();
        Check.finish("ActsTest");
    }

    private static void withoutPlayers() {
        MudCouncil x = new MudCouncil();
        x.link(0, 0, 1);
        x.shop(0, 10);
        x.stock(0, 0, 1, 1);
        x.scatter(0, 0, 1);
        Check.illegalState("go", () -> x.go(0));
        Check.illegalState("say", () -> x.say(0));
        Check.illegalState("shout", () -> x.shout(0));
        Check.illegalState("take", () -> x.take(0));
        Check.illegalState("drop", () -> x.drop(0));
        Check.illegalState("buy", () -> x.buy(0));
        Check.illegalState("sell", () -> x.sell(0));
        Check.illegalState("rest", () -> x.rest());
        Check.outOfBounds("give", () -> x.give(0, 0));
        Check.outOfBounds("pay", () -> x.pay(0, 1));
        Check.outOfBounds("attack", () -> x.attack(0));
        Check.outOfBounds("go 4", () -> x.go(4));
        Check.illegalArgument("say 100", () -> x.say(100));
        Check.illegalArgument("shout -1", () -> x.shout(-1));
        Check.outOfBounds("take 5", () -> x.take(5));
        Check.outOfBounds("drop -1", () -> x.drop(-1));
        Check.outOfBounds("buy 5", () -> x.buy(5));
        Check.outOfBounds("sell -1", () -> x.sell(-1));
        Check.due("calls", x.calls(), 4);
    }

    private static void promise11Go() {
        MudCouncil x = new MudCouncil();
        x.link(0, MudCouncil.EAST, 7);
        x.link(7, MudCouncil.NORTH, 3);
        x.join(0, 0, 0);
        Check.outOfBounds("direction -1", () -> x.go(-1));
        Check.outOfBounds("direction 4", () -> x.go(4));
        Check.illegalState("no exit", () -> x.go(MudCouncil.WEST));
        Check.due("nothing changed", x.readyAt(0), 0);
        Check.due("go", x.go(MudCouncil.EAST), 7);
        Check.due("cost", x.readyAt(0), 2);
        Check.due("go", x.go(MudCouncil.NORTH), 3);
        Check.due("go back", x.go(MudCouncil.SOUTH), 7);
        Check.due("go back", x.go(MudCouncil.WEST), 0);
        Check.due("room", x.roomOf(0), 0);
        Check.due("cost", x.readyAt(0), 8);
        Check.due("calls", x.calls(), 7);
    }

    private static void promise12Say() {
        MudCouncil x = new MudCouncil();
        x.link(2, MudCouncil.EAST, 3);
        x.join(2, 0, 0);
        x.join(2, 0, 0);
        x.join(3, 0, 0);
        x.join(2, 0, 0);
        Check.illegalArgument("word -1", () -> x.say(-1));
        Check.illegalArgument("word 100", () -> x.say(100));
        Check.due("say", x.say(0), 2);
        Check.due("cost", x.readyAt(0), 1);
        Check.due("say", x.say(99), 2);
        Check.due("say alone", x.say(5), 0);
        Check.due("say", x.say(7), 2);
        Check.due("player 0 heard", x.heard(0, 0), 307);
        Check.due("player 0 heard", x.heard(0, 1), 199);
        Check.outOfBounds("player 0 heard no more", () -> x.heard(0, 2));
        Check.due("player 1 heard", x.heard(1, 1), 0);
        Check.outOfBounds("player 2 heard nothing", () -> x.heard(2, 0));
        Check.due("player 3 heard", x.heard(3, 0), 199);
    }

    private static void promise13Shout() {
        MudCouncil x = new MudCouncil();
        x.link(2, MudCouncil.EAST, 3);
        x.link(3, MudCouncil.EAST, 4);
        x.join(2, 0, 0);
        x.join(2, 0, 0);
        x.join(3, 0, 0);
        x.join(4, 0, 0);
        Check.illegalArgument("word -1", () -> x.shout(-1));
        Check.illegalArgument("word 100", () -> x.shout(100));
        Check.due("shout to the next room", x.shout(99), 2);
        Check.due("cost", x.readyAt(0), 1);
        Check.due("in the room", x.heard(1, 0), 99);
        Check.due("in the next room", x.heard(2, 0), 99);
        Check.outOfBounds("in the room behind it", () -> x.heard(3, 0));
        Check.outOfBounds("not by the actor", () -> x.heard(0, 0));
        x.rest();
        Check.due("shout from between", x.shout(0), 3);
        Check.due("heard from between", x.heard(3, 0), 200);
    }

    private static void promise13ShoutByTwoExits() {
        MudCouncil x = new MudCouncil();
        x.link(0, MudCouncil.EAST, 1);
        x.link(0, MudCouncil.WEST, 1);
        x.join(0, 0, 0);
        x.join(1, 0, 0);
        Check.due("heard once", x.shout(8), 1);
        Check.due("word", x.heard(1, 0), 8);
        Check.outOfBounds("not twice", () -> x.heard(1, 1));
    }

    private static void promise13ShoutInEachDirection() {
        MudCouncil x = new MudCouncil();
        x.join(3, 0, 0);
        for (int direction = 0; direction < 4; direction++) {
            x.link(3, direction, 4 + direction);
        }
        x.join(4, 0, 0);
        x.join(5, 0, 0);
        x.join(6, 0, 0);
        Check.due("heard north, east and south", x.shout(1), 3);
        MudCouncil y = new MudCouncil();
        y.link(3, MudCouncil.WEST, 7);
        y.join(3, 0, 0);
        y.join(7, 0, 0);
        Check.due("heard west", y.shout(1), 1);
        Check.due("heard back east", y.shout(1), 1);
    }

    private static void promise14Take() {
        MudCouncil x = new MudCouncil();
        x.join(6, 0, 0);
        x.scatter(6, 4, 2);
        x.scatter(5, 0, 1);
        Check.outOfBounds("kind -1", () -> x.take(-1));
        Check.outOfBounds("kind 5", () -> x.take(5));
        Check.illegalState("it lies elsewhere", () -> x.take(0));
        Check.due("take", x.take(4), 1);
        Check.due("cost", x.readyAt(0), 1);
        Check.due("floor", x.onFloor(6, 4), 1);
        Check.due("take", x.take(4), 2);
        Check.illegalState("none is left", () -> x.take(4));
        Check.due("goods", x.goodsOf(0, 4), 2);
        Check.due("all goods", x.allGoods(4), 2);
    }

    private static void promise15Drop() {
        MudCouncil x = new MudCouncil();
        x.join(6, 0, 0);
        x.scatter(6, 1, 3);
        x.take(1);
        x.take(1);
        Check.outOfBounds("kind -1", () -> x.drop(-1));
        Check.outOfBounds("kind 5", () -> x.drop(5));
        Check.illegalState("none of that kind", () -> x.drop(0));
        Check.due("drop", x.drop(1), 1);
        Check.due("cost", x.readyAt(0), 3);
        Check.due("floor", x.onFloor(6, 1), 2);
        Check.due("drop", x.drop(1), 0);
        Check.illegalState("none is left", () -> x.drop(1));
        Check.due("all goods", x.allGoods(1), 3);
    }

    private static void promise16Give() {
        MudCouncil x = new MudCouncil();
        x.join(6, 0, 0);
        x.join(6, 0, 0);
        x.join(5, 0, 0);
        x.scatter(6, 2, 1);
        x.take(2);
        x.rest();
        x.rest();
        Check.outOfBounds("player -1", () -> x.give(-1, 2));
        Check.outOfBounds("player 3", () -> x.give(3, 2));
        Check.outOfBounds("kind -1", () -> x.give(1, -1));
        Check.outOfBounds("kind 5 to the actor", () -> x.give(0, 5));
        Check.illegalState("to the actor", () -> x.give(0, 2));
        Check.illegalState("to another room", () -> x.give(2, 2));
        Check.illegalState("none of that kind", () -> x.give(1, 3));
        Check.due("give", x.give(1, 2), 0);
        Check.due("cost", x.readyAt(0), 2);
        Check.due("goods", x.goodsOf(1, 2), 1);
        Check.due("goods given", x.goodsOf(0, 2), 0);
        Check.illegalState("none is left", () -> x.give(1, 2));
    }

    private static void promise17Pay() {
        MudCouncil x = new MudCouncil();
        x.join(6, 10, 0);
        x.join(6, 0, 0);
        x.join(5, 0, 0);
        Check.outOfBounds("player -1", () -> x.pay(-1, 1));
        Check.outOfBounds("player 3, coins too", () -> x.pay(3, 0));
        Check.illegalArgument("coins 0 to the actor", () -> x.pay(0, 0));
        Check.illegalArgument("coins 1001", () -> x.pay(1, 1001));
        Check.illegalState("to the actor", () -> x.pay(0, 1));
        Check.illegalState("to another room", () -> x.pay(2, 1));
        Check.illegalState("one coin too many", () -> x.pay(1, 11));
        Check.illegalState("1000 coins", () -> x.pay(1, 1000));
        Check.due("pay", x.pay(1, 4), 6);
        Check.due("cost", x.readyAt(0), 1);
        Check.due("coins", x.coinsOf(1), 4);
        x.rest();
        x.rest();
        Check.due("pay all", x.pay(1, 6), 0);
        Check.due("coins", x.coinsOf(1), 10);
        MudCouncil y = new MudCouncil();
        y.quest(5);
        y.stage(0, MudCouncil.VISIT, 0, 0);
        y.endow(9);
        y.join(0, 3, 0);
        y.join(0, 0, 0);
        Check.due("pay with a reward", y.pay(1, 3), 5);
    }

    private static void promise18Buy() {
        MudCouncil x = new MudCouncil();
        x.join(1, 14, 0);
        Check.outOfBounds("kind -1", () -> x.buy(-1));
        Check.outOfBounds("kind 5", () -> x.buy(5));
        Check.illegalState("no shop", () -> x.buy(0));
        x.shop(1, 3);
        Check.illegalState("price 0 at first", () -> x.buy(0));
        x.stock(1, 0, 3, 7);
        x.stock(1, 1, 0, 2);
        x.stock(1, 2, 5, 0);
        Check.illegalState("none in stock", () -> x.buy(1));
        Check.illegalState("price 0", () -> x.buy(2));
        Check.due("buy", x.buy(0), 7);
        Check.due("cost", x.readyAt(0), 1);
        Check.due("till", x.tillOf(1), 10);
        Check.due("stock", x.stockOf(1, 0), 2);
        Check.due("goods", x.goodsOf(0, 0), 1);
        Check.due("buy with the last coins", x.buy(0), 0);
        Check.illegalState("no coins", () -> x.buy(0));
        Check.due("all coins", x.allCoins(), 17);
        Check.due("all goods", x.allGoods(0), 3);
        MudCouncil y = new MudCouncil();
        y.quest(50);
        y.stage(0, MudCouncil.HOLD, 0, 1);
        y.endow(9);
        y.shop(0, 0);
        y.stock(0, 0, 1, 3);
        y.join(0, 3, 0);
        Check.due("buy with a reward", y.buy(0), 9);
        Check.due("purse", y.purse(), 0);
    }

    private static void promise19Sell() {
        MudCouncil x = new MudCouncil();
        x.join(1, 0, 0);
        x.scatter(1, 0, 9);
        x.scatter(1, 1, 9);
        x.take(0);
        x.take(0);
        x.take(1);
        Check.outOfBounds("kind -1", () -> x.sell(-1));
        Check.outOfBounds("kind 5", () -> x.sell(5));
        Check.illegalState("no shop", () -> x.sell(0));
        x.shop(1, 5);
        Check.illegalState("price 0 at first", () -> x.sell(0));
        x.stock(1, 0, 0, 7);
        x.stock(1, 2, 1, 7);
        x.stock(1, 1, 0, 1);
        Check.illegalState("none of that kind", () -> x.sell(2));
        Check.due("sell", x.sell(0), 3);
        Check.due("cost", x.readyAt(0), 4);
        Check.due("till", x.tillOf(1), 2);
        Check.due("stock", x.stockOf(1, 0), 1);
        Check.due("goods", x.goodsOf(0, 0), 1);
        Check.illegalState("till too empty", () -> x.sell(0));
        x.stock(1, 0, 0, 5);
        Check.due("sell for the last coins", x.sell(0), 5);
        Check.due("till", x.tillOf(1), 0);
        Check.due("sell for nothing", x.sell(1), 5);
        Check.due("stock", x.stockOf(1, 1), 1);
        Check.due("all goods", x.allGoods(0), 9);
        MudCouncil y = new MudCouncil();
        y.quest(6);
        y.endow(9);
        y.shop(0, 9);
        y.stock(0, 0, 0, 4);
        y.scatter(0, 0, 1);
        y.join(0, 0, 0);
        y.take(0);
        y.stage(0, MudCouncil.VISIT, 0, 0);
        Check.due("sell with a reward", y.sell(0), 8);
    }

    // Behind the seed 1 the die shows 5, 2, then 1, 6, then 1, 2.
    private static void promise20NobodyBeaten() {
        MudCouncil x = new MudCouncil();
        x.join(4, 10, 3);
        x.join(4, 10, 3);
        Check.due("attack", x.attack(1), MudCouncil.NONE);
        Check.due("the actor's health", x.healthOf(0), 20 - 5 - 1);
        Check.due("the other one's health", x.healthOf(1), 20 - 3);
        Check.due("cost", x.readyAt(0), 3);
        Check.due("the other one's ready time", x.readyAt(1), 0);
        Check.due("coins", x.coinsOf(0), 10);
        Check.due("room", x.roomOf(1), 4);
        x.rest();
        x.rest();
        // The die goes on: 3, 2, then 5, 4, then 1, 6.
        Check.due("attack", x.attack(1), MudCouncil.NONE);
        Check.due("the actor's health", x.healthOf(0), 14 - 5);
        Check.due("the other one's health", x.healthOf(1), 19 - 1 - 1);
    }

    // Behind the seed 6 the die shows 6, 1, then 4, 1, and then would show 4, 3.
    private static void promise20RivalBeaten() {
        MudCouncil x = new MudCouncil();
        x.join(4, 10, 6);
        x.join(4, 31, 0);
        x.scatter(4, 0, 2);
        x.scatter(4, 3, 1);
        x.take(3);
        x.take(0);
        x.rest();
        x.take(0);
        x.seed(6);
        Check.due("ready", x.readyAt(0), 3);
        Check.due("ready", x.readyAt(1), 2);
        x.rest();
        Check.due("attack", x.attack(1), 1);
        Check.due("the actor's health", x.healthOf(0), 20);
        Check.due("the actor's coins", x.coinsOf(0), 25);
        Check.due("the actor's goods", x.goodsOf(0, 3), 1);
        Check.due("the actor's room", x.roomOf(0), 4);
        Check.due("the actor's ready time", x.readyAt(0), 6);
        Check.due("the loser's health", x.healthOf(1), 10);
        Check.due("the loser's coins", x.coinsOf(1), 16);
        Check.due("the loser's goods", x.goodsOf(1, 0), 0);
        Check.due("the loser's room", x.roomOf(1), 0);
        Check.due("the loser's ready time", x.readyAt(1), 13);
        Check.due("the floor", x.onFloor(4, 0), 2);
        Check.due("all goods", x.allGoods(0), 2);
        Check.due("all coins", x.allCoins(), 41);
        // No third round: the seed is that behind four rolls, so that the die goes on with 4, 3, then 2, 1.
        x.join(4, 0, 6);
        Check.due("turn", x.turn(), 2);
        Check.due("attack", x.attack(0), MudCouncil.NONE);
        Check.due("the health behind 4, 3 and two rounds more", x.healthOf(0), 20 - 1 - roundsBehindFour());
    }

    // Strengths are equal there, so that only the die counts: it is rolled here as the document tells it.
    private static int roundsBehindFour() {
        int seed = 6;
        for (int roll = 0; roll < 6; roll++) {
            seed = next(seed);
        }
        int lost = 0;
        for (int round = 0; round < 2; round++) {
            seed = next(seed);
            int actor = seed % 6 + 1;
            seed = next(seed);
            int rival = seed % 6 + 1;
            lost += Math.max(0, actor - rival);
        }
        return lost;
    }

    private static int next(int seed) {
        return (25173 * seed + 13849) % 65536;
    }

    // Behind the seed 1 the die shows 5, 2, then 1, 6, then 1, 2.
    private static void promise20ActorBeaten() {
        MudCouncil x = new MudCouncil();
        x.join(4, 31, 0);
        x.join(4, 10, 6);
        x.scatter(4, 2, 1);
        x.take(2);
        x.rest();
        Check.due("attack", x.attack(1), 0);
        Check.due("the actor's health", x.healthOf(0), 10);
        Check.due("the actor's coins", x.coinsOf(0), 16);
        Check.due("the actor's room", x.roomOf(0), 0);
        Check.due("the actor's goods", x.goodsOf(0, 2), 0);
        Check.due("the actor's ready time, without the cost", x.readyAt(0), 11);
        Check.due("the winner's coins", x.coinsOf(1), 25);
        Check.due("the winner's health", x.healthOf(1), 20);
        Check.due("the winner's ready time", x.readyAt(1), 2);
        Check.due("the floor", x.onFloor(4, 2), 1);
        Check.due("turn", x.turn(), 1);
    }

    private static void promise20OthersKeepTheirs() {
        MudCouncil x = new MudCouncil();
        x.join(4, 31, 0);
        x.join(4, 10, 6);
        x.join(4, 8, 6);
        for (int kind = 0; kind < 5; kind++) {
            x.scatter(4, kind, 3);
            x.take(kind);
            x.take(kind);
            x.take(kind);
        }
        Check.due("the actor is beaten", x.attack(1), 0);
        for (int kind = 0; kind < 5; kind++) {
            Check.due("goods of the beaten one", x.goodsOf(0, kind), 0);
            Check.due("goods of the winner", x.goodsOf(1, kind), 1);
            Check.due("goods of a third one", x.goodsOf(2, kind), 1);
            Check.due("floor of the fight", x.onFloor(4, kind), 1);
            Check.due("floor of the next room", x.onFloor(5, kind), 0);
            Check.due("floor of room 0", x.onFloor(0, kind), 0);
        }
        Check.due("coins of a third one", x.coinsOf(2), 8);
    }

    // Behind the seed 5 the die shows 3, 4 three times; behind 4 it shows 4, 1, then 2, 5, then 2, 1.
    private static void promise20TiesAndHealthOfOne() {
        MudCouncil x = new MudCouncil();
        x.join(0, 0, 1);
        x.join(0, 0, 0);
        x.seed(5);
        Check.due("three ties", x.attack(1), MudCouncil.NONE);
        Check.due("health", x.healthOf(0), 20);
        Check.due("health", x.healthOf(1), 20);
        MudCouncil y = new MudCouncil();
        y.join(0, 0, 6);
        y.join(0, 0, 0);
        y.seed(4);
        Check.due("one is left", y.attack(1), MudCouncil.NONE);
        Check.due("health of one", y.healthOf(1), 1);
    }

    // One whose ready time lies more than 10 behind the act keeps it when beaten.
    private static void promise20ReadyTimeNotLess() {
        MudCouncil x = new MudCouncil();
        x.join(0, 0, 0);
        for (int i = 0; i < 8; i++) {
            x.rest();
        }
        x.join(0, 0, 6);
        x.seed(6);
        Check.due("attack", x.attack(0), 0);
        Check.due("the loser's ready time", x.readyAt(0), 16);
        Check.due("the winner's ready time", x.readyAt(1), 3);
    }

    private static void promise20Refuses() {
        MudCouncil x = new MudCouncil();
        x.join(0, 0, 0);
        x.join(1, 0, 6);
        Check.outOfBounds("player -1", () -> x.attack(-1));
        Check.outOfBounds("player 2", () -> x.attack(2));
        Check.illegalState("the actor", () -> x.attack(0));
        Check.illegalState("another room", () -> x.attack(1));
        Check.due("calls", x.calls(), 2);
    }

    private static void promise21Rest() {
        MudCouncil x = new MudCouncil();
        x.join(0, 0, 6);
        x.join(0, 0, 0);
        Check.due("rest in full health", x.rest(), 20);
        Check.due("cost", x.readyAt(0), 2);
        x.rest();
        x.seed(4);
        x.attack(1);
        Check.due("health", x.healthOf(1), 1);
        Check.due("rest", x.rest(), 2);
        Check.due("rest", x.rest(), 3);
        Check.due("health", x.healthOf(1), 3);
    }
}
