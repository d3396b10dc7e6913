/**
 * The boundary cases of promises 11 to 21: arguments at and beyond their ends, the last one of a kind and none, reasons
 * to throw at once, acts without players, and that nothing has changed behind an act that throws.
 */
final class ActsEdgesTest {
    public static void main(String[] args) {
        actsWithoutPlayers();
        actsWithoutPlayersForTwoReasons();
        actsOnPlayersThatAreNotThere();
        goByFirstAndLastDirection();
        goByNoSuchDirection();
        goWithoutAnExit();
        sayLeastAndGreatestWord();
        sayToNobodyAndToAll();
        sayOutOfRange();
        shoutLeastAndGreatestWord();
        shoutToNobodyAndToAll();
        shoutOutOfRange();
        takeFirstAndLastKind();
        takeTheLastOne();
        takeNoSuchKind();
        takeWhereNoneLies();
        dropFirstAndLastKind();
        dropTheLastOne();
        dropNoSuchKind();
        dropNoneHad();
        giveFirstAndLastKindToFirstAndLastPlayer();
        giveToNoSuchPlayerOrOfNoSuchKind();
        giveToTheActorOrAnotherRoom();
        giveNoneHad();
        giveForTwoReasons();
        payToFirstAndLastPlayer();
        payLeastAndAll();
        payMost();
        payToNoSuchPlayer();
        payOutOfRange();
        payToTheActorOrAnotherRoom();
        payMoreThanHad();
        payForTwoReasons();
        buyFirstAndLastKind();
        buyTheLastOneWithTheLastCoins();
        buyNoSuchKind();
        buyWithoutAShop();
        buyWhatIsNotTraded();
        buyWhatIsNotInStock();
        buyForOneCoinTooMuch();
        sellFirstAndLastKind();
        sellForAllThatIsInTheTill();
        sellNoSuchKind();
        sellWithoutAShop();
        sellWhatIsNotTraded();
        sellNoneHad();
        sellForOneCoinTooMuch();
        attackFirstAndLastPlayer();
        attackNoSuchPlayer();
        attackTheActorOrAnotherRoom();
        restUpToTwenty();
        coinsAreToldWithTheReward();
        Check.finish("ActsEdgesTest");
    }

    private static void furnished(MudCouncil x) {
        x.link(0, MudCouncil.NORTH, 1);
        x.shop(0, 50);
        x.stock(0, 0, 5, 2);
        x.scatter(0, 0, 5);
    }

    // Players 0 to 3 are in room 0, each with 40 coins; there are goods of kinds 0 and 4 on the floor and in the shop.
    private static void company(MudCouncil x) {
        furnished(x);
        x.stock(0, 4, 5, 2);
        x.scatter(0, 4, 5);
        Edges.each(4, player -> x.join(0, 40, 0));
    }

    private static Edges.Play turnOf(int player) {
        return x -> Edges.each(player, before -> x.rest());
    }

    // ---- without players

    private static void actsWithoutPlayers() {
        Edges.illegalState("go", ActsEdgesTest::furnished, x -> x.go(MudCouncil.NORTH));
        Edges.illegalState("say", ActsEdgesTest::furnished, x -> x.say(0));
        Edges.illegalState("shout", ActsEdgesTest::furnished, x -> x.shout(0));
        Edges.illegalState("take", ActsEdgesTest::furnished, x -> x.take(0));
        Edges.illegalState("drop", ActsEdgesTest::furnished, x -> x.drop(0));
        Edges.illegalState("buy", ActsEdgesTest::furnished, x -> x.buy(0));
        Edges.illegalState("sell", ActsEdgesTest::furnished, x -> x.sell(0));
        Edges.illegalState("rest", ActsEdgesTest::furnished, x -> x.rest());
    }

    private static void actsWithoutPlayersForTwoReasons() {
        Edges.outOfBounds("go by no direction", ActsEdgesTest::furnished, x -> x.go(4));
        Edges.outOfBounds("take no kind", ActsEdgesTest::furnished, x -> x.take(5));
        Edges.outOfBounds("drop no kind", ActsEdgesTest::furnished, x -> x.drop(-1));
        Edges.outOfBounds("buy no kind", ActsEdgesTest::furnished, x -> x.buy(5));
        Edges.outOfBounds("sell no kind", ActsEdgesTest::furnished, x -> x.sell(-1));
        Edges.illegalArgument("say no word", ActsEdgesTest::furnished, x -> x.say(100));
        Edges.illegalArgument("shout no word", ActsEdgesTest::furnished, x -> x.shout(-1));
    }

    // Without players there is no such player, and that exception is named first.
    private static void actsOnPlayersThatAreNotThere() {
        Edges.outOfBounds("give", ActsEdgesTest::furnished, x -> x.give(0, 0));
        Edges.outOfBounds("pay", ActsEdgesTest::furnished, x -> x.pay(0, 1));
        Edges.outOfBounds("pay no coins", ActsEdgesTest::furnished, x -> x.pay(0, 0));
        Edges.outOfBounds("attack", ActsEdgesTest::furnished, x -> x.attack(0));
    }

    // ---- promise 11

    private static void goByFirstAndLastDirection() {
        Edges.each(4, direction -> {
            MudCouncil x = new MudCouncil();
            x.link(0, direction, 7);
            x.join(0, 0, 0);
            Check.due("there", x.go(direction), 7);
            Check.due("in the last room", x.roomOf(0), 7);
            Check.due("back", x.go((direction + 2) % 4), 0);
            Check.due("in the first room", x.roomOf(0), 0);
        });
    }

    private static void goByNoSuchDirection() {
        for (int direction : Edges.beyond(0, 3)) {
            Edges.outOfBounds("go by " + direction, Edges::busy, x -> x.go(direction));
        }
    }

    private static void goWithoutAnExit() {
        Edges.illegalState("south of busy", Edges::busy, x -> x.go(MudCouncil.SOUTH));
        Edges.illegalState("west of busy", Edges::busy, x -> x.go(MudCouncil.WEST));
        Edges.each(4, direction -> Edges.illegalState("an exit of another room alone", x -> {
            x.link(1, direction, 2);
            x.join(0, 0, 0);
        }, x -> x.go(direction)));
        Edges.each(4, direction -> Edges.illegalState("the exit back alone", x -> {
            x.link(1, direction, 0);
            x.join(0, 0, 0);
        }, x -> x.go(direction)));
    }

    // ---- promises 12 and 13

    private static void sayLeastAndGreatestWord() {
        MudCouncil x = Edges.made(ActsEdgesTest::company);
        Check.due("least", x.say(0), 3);
        Check.due("the first player's least", x.heard(3, 0), 0);
        x.rest();
        x.rest();
        Check.due("greatest", x.say(99), 3);
        Check.due("the last player's greatest", x.heard(0, 0), 399);
    }

    private static void sayToNobodyAndToAll() {
        MudCouncil x = new MudCouncil();
        x.join(0, 0, 0);
        Check.due("alone", x.say(5), 0);
        Check.outOfBounds("one does not hear oneself", () -> x.heard(0, 0));
        Edges.each(3, player -> x.join(0, 0, 0));
        x.rest();
        x.rest();
        x.rest();
        Check.due("to all others", x.say(6), 3);
        Check.outOfBounds("one does not hear oneself among others", () -> x.heard(0, 0));
        Edges.each(3, player -> Check.due("heard", x.heard(player + 1, 0), 6));
    }

    private static void sayOutOfRange() {
        for (int word : Edges.beyond(0, 99)) {
            Edges.illegalArgument("say " + word, Edges::busy, x -> x.say(word));
        }
    }

    private static void shoutLeastAndGreatestWord() {
        MudCouncil x = Edges.made(ActsEdgesTest::company);
        Check.due("least", x.shout(0), 3);
        Check.due("the first player's least", x.heard(3, 0), 0);
        x.rest();
        x.rest();
        Check.due("greatest", x.shout(99), 3);
        Check.due("the last player's greatest", x.heard(0, 0), 399);
    }

    private static void shoutToNobodyAndToAll() {
        MudCouncil x = new MudCouncil();
        x.link(3, MudCouncil.NORTH, 0);
        x.link(3, MudCouncil.WEST, 7);
        x.join(3, 0, 0);
        Check.due("alone", x.shout(5), 0);
        x.join(3, 0, 0);
        x.join(0, 0, 0);
        x.join(7, 0, 0);
        x.rest();
        x.rest();
        x.rest();
        Check.due("to all others", x.shout(6), 3);
        Edges.each(3, player -> Check.due("heard", x.heard(player + 1, 0), 6));
        Check.outOfBounds("one does not hear oneself", () -> x.heard(0, 0));
    }

    private static void shoutOutOfRange() {
        for (int word : Edges.beyond(0, 99)) {
            Edges.illegalArgument("shout " + word, Edges::busy, x -> x.shout(word));
        }
    }

    // ---- promise 14

    private static void takeFirstAndLastKind() {
        MudCouncil x = Edges.made(ActsEdgesTest::company);
        Check.due("first kind", x.take(0), 1);
        Check.due("last kind", x.take(4), 1);
        Check.due("the actor's", x.goodsOf(0, 0), 1);
        Check.due("the next actor's", x.goodsOf(1, 4), 1);
        Check.due("floor of the first", x.onFloor(0, 0), 4);
        Check.due("floor of the last", x.onFloor(0, 4), 4);
    }

    private static void oneOnTheFloor(MudCouncil x) {
        x.scatter(6, 2, 1);
        x.join(6, 0, 0);
    }

    private static void takeTheLastOne() {
        MudCouncil x = Edges.made(ActsEdgesTest::oneOnTheFloor);
        Check.due("take", x.take(2), 1);
        Check.due("floor", x.onFloor(6, 2), 0);
        Edges.illegalState("none is left", y -> {
            oneOnTheFloor(y);
            y.take(2);
        }, y -> y.take(2));
    }

    private static void takeNoSuchKind() {
        for (int kind : Edges.beyond(0, 4)) {
            Edges.outOfBounds("take kind " + kind, Edges::busy, x -> x.take(kind));
        }
    }

    private static void takeWhereNoneLies() {
        Edges.illegalState("of another kind alone", ActsEdgesTest::oneOnTheFloor, x -> x.take(1));
        Edges.illegalState("in another room alone", Edges::busy, x -> x.take(2));
        Edges.illegalState("in the shop alone", Edges::busy, x -> x.take(0));
    }

    // ---- promise 15

    private static void dropFirstAndLastKind() {
        MudCouncil x = Edges.made(ActsEdgesTest::company);
        x.take(0);
        x.take(4);
        x.rest();
        x.rest();
        Check.due("first kind", x.drop(0), 0);
        Check.due("last kind", x.drop(4), 0);
        Check.due("floor of the first", x.onFloor(0, 0), 5);
        Check.due("floor of the last", x.onFloor(0, 4), 5);
    }

    private static void twoTaken(MudCouncil x) {
        x.scatter(6, 2, 2);
        x.join(6, 0, 0);
        x.take(2);
        x.take(2);
    }

    private static void dropTheLastOne() {
        MudCouncil x = Edges.made(ActsEdgesTest::twoTaken);
        Check.due("drop", x.drop(2), 1);
        Check.due("drop the last", x.drop(2), 0);
        Check.due("goods", x.goodsOf(0, 2), 0);
        Edges.illegalState("none is left", y -> {
            twoTaken(y);
            y.drop(2);
            y.drop(2);
        }, y -> y.drop(2));
    }

    private static void dropNoSuchKind() {
        for (int kind : Edges.beyond(0, 4)) {
            Edges.outOfBounds("drop kind " + kind, Edges::busy, x -> x.drop(kind));
        }
    }

    private static void dropNoneHad() {
        Edges.illegalState("nothing had", ActsEdgesTest::company, x -> x.drop(0));
        Edges.illegalState("of another kind alone", ActsEdgesTest::twoTaken, x -> x.drop(1));
        Edges.illegalState("had by another player alone", x -> {
            company(x);
            x.take(0);
        }, x -> x.drop(0));
    }

    // ---- promise 16

    private static void giveFirstAndLastKindToFirstAndLastPlayer() {
        MudCouncil x = Edges.made(ActsEdgesTest::company);
        x.take(0);
        x.rest();
        x.rest();
        x.take(4);
        Check.due("to the last player", x.give(3, 0), 0);
        Check.due("to the first player", x.give(0, 4), 0);
        Check.due("the last player's", x.goodsOf(3, 0), 1);
        Check.due("the first player's", x.goodsOf(0, 4), 1);
        Check.due("all of the first kind", x.allGoods(0), 10);
        Check.due("all of the last kind", x.allGoods(4), 10);
    }

    private static void giveToNoSuchPlayerOrOfNoSuchKind() {
        for (int player : Edges.beyond(0, 2)) {
            Edges.outOfBounds("give to " + player + " of three", Edges::busy, x -> x.give(player, 4));
        }
        for (int player : Edges.beyond(0, 3)) {
            Edges.outOfBounds("give to " + player + " of four", ActsEdgesTest::company, x -> x.give(player, 4));
        }
        for (int kind : Edges.beyond(0, 4)) {
            Edges.outOfBounds("give kind " + kind, Edges::busy, x -> x.give(1, kind));
        }
    }

    private static void giveToTheActorOrAnotherRoom() {
        Edges.illegalState("to the actor", Edges::busy, x -> x.give(0, 4));
        Edges.illegalState("to another room", Edges::busy, x -> x.give(2, 4));
    }

    private static void giveNoneHad() {
        Edges.illegalState("of another kind alone", Edges::busy, x -> x.give(1, 0));
        Edges.illegalState("none is left", x -> {
            company(x);
            x.take(0);
            turnOf(3).on(x);
            x.give(1, 0);
            turnOf(3).on(x);
            x.say(0);
        }, x -> x.give(1, 0));
    }

    private static void giveForTwoReasons() {
        Edges.outOfBounds("no such player, none had", Edges::busy, x -> x.give(3, 0));
        Edges.outOfBounds("no such kind, to the actor", Edges::busy, x -> x.give(0, 5));
        Edges.outOfBounds("no such kind, to another room", Edges::busy, x -> x.give(2, -1));
    }

    // ---- promise 17

    private static void payToFirstAndLastPlayer() {
        MudCouncil x = Edges.made(ActsEdgesTest::company);
        Check.due("to the last player", x.pay(3, 7), 33);
        x.rest();
        x.rest();
        Check.due("to the first player", x.pay(0, 2), 45);
        Check.due("the first player's", x.coinsOf(0), 35);
        Check.due("the last player's", x.coinsOf(3), 45);
        Check.due("all coins", x.allCoins(), 210);
    }

    private static void payLeastAndAll() {
        MudCouncil x = Edges.made(ActsEdgesTest::company);
        Check.due("least", x.pay(1, 1), 39);
        Check.due("all", x.pay(0, 41), 0);
        Check.due("who was paid all", x.coinsOf(0), 80);
    }

    private static void rich(MudCouncil x) {
        x.quest(100);
        x.stage(0, MudCouncil.SAY, 0, 1);
        x.endow(1000);
        Edges.each(4, player -> x.join(0, 200, 0));
        Edges.each(4, player -> x.say(1));
        x.rest();
        x.pay(0, 300);
        x.pay(0, 300);
        x.pay(0, 300);
    }

    private static void payMost() {
        MudCouncil x = Edges.made(ActsEdgesTest::rich);
        Edges.each(3, player -> x.say(2));
        Check.due("player 0 has them all", x.coinsOf(0), 1200);
        Check.due("turn", x.turn(), 0);
        Check.due("most", x.pay(1, 1000), 200);
        Check.due("who was paid most", x.coinsOf(1), 1000);
    }

    private static void payToNoSuchPlayer() {
        for (int player : Edges.beyond(0, 2)) {
            Edges.outOfBounds("pay to " + player + " of three", Edges::busy, x -> x.pay(player, 1));
        }
        for (int player : Edges.beyond(0, 3)) {
            Edges.outOfBounds("pay to " + player + " of four", ActsEdgesTest::company, x -> x.pay(player, 1));
        }
    }

    private static void payOutOfRange() {
        for (int coins : Edges.beyond(1, 1000)) {
            Edges.illegalArgument("pay " + coins, Edges::busy, x -> x.pay(1, coins));
        }
        Edges.illegalArgument("1001 of 1200", x -> {
            rich(x);
            Edges.each(3, player -> x.say(2));
        }, x -> x.pay(1, 1001));
    }

    private static void payToTheActorOrAnotherRoom() {
        Edges.illegalState("to the actor", Edges::busy, x -> x.pay(0, 1));
        Edges.illegalState("to another room", Edges::busy, x -> x.pay(2, 1));
    }

    private static void payMoreThanHad() {
        Edges.illegalState("one coin more", ActsEdgesTest::company, x -> x.pay(1, 41));
        Edges.illegalState("the most", ActsEdgesTest::company, x -> x.pay(1, 1000));
        Edges.illegalState("one coin of none", x -> {
            x.join(0, 0, 0);
            x.join(0, 0, 0);
        }, x -> x.pay(1, 1));
    }

    private static void payForTwoReasons() {
        Edges.outOfBounds("no such player, no coins", Edges::busy, x -> x.pay(3, 0));
        Edges.outOfBounds("no such player, too many", Edges::busy, x -> x.pay(-1, 1001));
        Edges.outOfBounds("no such player, more than had", Edges::busy, x -> x.pay(3, 1000));
        Edges.illegalArgument("no coins to the actor", Edges::busy, x -> x.pay(0, 0));
        Edges.illegalArgument("too many to another room", Edges::busy, x -> x.pay(2, 1001));
        Edges.illegalArgument("too many, more than had", Edges::busy, x -> x.pay(1, 1001));
    }

    // ---- promise 18

    private static void buyFirstAndLastKind() {
        MudCouncil x = Edges.made(ActsEdgesTest::company);
        Check.due("first kind", x.buy(0), 38);
        Check.due("last kind", x.buy(4), 38);
        Check.due("goods of the first", x.goodsOf(0, 0), 1);
        Check.due("goods of the last", x.goodsOf(1, 4), 1);
        Check.due("stock of the first", x.stockOf(0, 0), 4);
        Check.due("stock of the last", x.stockOf(0, 4), 4);
        Check.due("till", x.tillOf(0), 54);
    }

    private static Edges.Play trader(int coins, int count, int price, int till) {
        return x -> {
            x.shop(7, till);
            x.stock(7, 3, count, price);
            x.scatter(7, 3, 1);
            x.join(7, coins, 0);
        };
    }

    private static void buyTheLastOneWithTheLastCoins() {
        MudCouncil x = Edges.made(trader(50, 1, 50, 0));
        Check.due("buy", x.buy(3), 0);
        Check.due("coins", x.coinsOf(0), 0);
        Check.due("stock", x.stockOf(7, 3), 0);
        Check.due("till", x.tillOf(7), 50);
        MudCouncil y = Edges.made(trader(1, 20, 1, 1000));
        Check.due("buy for the least price", y.buy(3), 0);
        Check.due("the fullest till and more", y.tillOf(7), 1001);
    }

    private static void buyNoSuchKind() {
        for (int kind : Edges.beyond(0, 4)) {
            Edges.outOfBounds("buy kind " + kind, Edges::busy, x -> x.buy(kind));
            Edges.outOfBounds("without a shop, buy kind " + kind, x -> x.join(0, 0, 0), x -> x.buy(kind));
        }
    }

    private static void buyWithoutAShop() {
        Edges.illegalState("no shop", x -> x.join(0, 200, 0), x -> x.buy(0));
        Edges.illegalState("a shop in another room alone", x -> {
            x.shop(0, 9);
            x.stock(0, 0, 9, 1);
            x.join(1, 200, 0);
        }, x -> x.buy(0));
    }

    private static void buyWhatIsNotTraded() {
        Edges.illegalState("price 0 at first", x -> {
            x.shop(0, 9);
            x.join(0, 9, 0);
        }, x -> x.buy(0));
        Edges.illegalState("price 0, with goods", trader(9, 5, 0, 9), x -> x.buy(3));
        Edges.illegalState("another kind has a price", trader(9, 5, 1, 9), x -> x.buy(2));
    }

    private static void buyWhatIsNotInStock() {
        Edges.illegalState("none in stock", trader(9, 0, 1, 9), x -> x.buy(3));
        Edges.illegalState("none is left", x -> {
            trader(9, 1, 1, 9).on(x);
            x.buy(3);
        }, x -> x.buy(3));
    }

    private static void buyForOneCoinTooMuch() {
        Edges.illegalState("one coin too few", trader(49, 1, 50, 9), x -> x.buy(3));
        Edges.illegalState("no coins", trader(0, 1, 1, 9), x -> x.buy(3));
    }

    // ---- promise 19

    private static void sellFirstAndLastKind() {
        MudCouncil x = Edges.made(ActsEdgesTest::company);
        x.take(0);
        x.take(4);
        x.rest();
        x.rest();
        Check.due("first kind", x.sell(0), 41);
        Check.due("last kind", x.sell(4), 41);
        Check.due("goods of the first", x.goodsOf(0, 0), 0);
        Check.due("goods of the last", x.goodsOf(1, 4), 0);
        Check.due("stock of the first", x.stockOf(0, 0), 6);
        Check.due("stock of the last", x.stockOf(0, 4), 6);
        Check.due("till", x.tillOf(0), 48);
    }

    private static Edges.Play seller(int price, int till) {
        return x -> {
            trader(0, 0, price, till).on(x);
            x.take(3);
        };
    }

    private static void sellForAllThatIsInTheTill() {
        MudCouncil x = Edges.made(seller(50, 25));
        Check.due("half of the greatest price", x.sell(3), 25);
        Check.due("till", x.tillOf(7), 0);
        MudCouncil y = Edges.made(seller(49, 24));
        Check.due("half of 49, rounded down", y.sell(3), 24);
        MudCouncil z = Edges.made(seller(1, 0));
        Check.due("half of 1, rounded down, from an empty till", z.sell(3), 0);
        Check.due("goods", z.goodsOf(0, 3), 0);
        Check.due("stock", z.stockOf(7, 3), 1);
        Check.due("half of 2", Edges.made(seller(2, 9)).sell(3), 1);
        Check.due("half of 3", Edges.made(seller(3, 9)).sell(3), 1);
    }

    private static void sellNoSuchKind() {
        for (int kind : Edges.beyond(0, 4)) {
            Edges.outOfBounds("sell kind " + kind, Edges::busy, x -> x.sell(kind));
            Edges.outOfBounds("without a shop, sell kind " + kind, x -> x.join(0, 0, 0), x -> x.sell(kind));
        }
    }

    private static void sellWithoutAShop() {
        Edges.Play taken = x -> {
            x.scatter(0, 0, 1);
            x.join(0, 0, 0);
            x.take(0);
        };
        Edges.illegalState("no shop", taken, x -> x.sell(0));
        Edges.illegalState("a shop in another room alone", x -> {
            taken.on(x);
            x.shop(1, 9);
            x.stock(1, 0, 0, 2);
        }, x -> x.sell(0));
    }

    private static void sellWhatIsNotTraded() {
        Edges.illegalState("price 0", seller(0, 9), x -> x.sell(3));
        Edges.illegalState("price 0 at first", x -> {
            x.shop(0, 9);
            x.scatter(0, 0, 1);
            x.join(0, 9, 0);
            x.take(0);
        }, x -> x.sell(0));
    }

    private static void sellNoneHad() {
        Edges.illegalState("none had", trader(9, 5, 2, 9), x -> x.sell(3));
        Edges.illegalState("none is left", x -> {
            seller(2, 9).on(x);
            x.sell(3);
        }, x -> x.sell(3));
        Edges.illegalState("of another kind alone", x -> {
            seller(2, 9).on(x);
            x.stock(7, 2, 1, 2);
        }, x -> x.sell(2));
    }

    private static void sellForOneCoinTooMuch() {
        Edges.illegalState("one coin too few", seller(50, 24), x -> x.sell(3));
        Edges.illegalState("an empty till", seller(2, 0), x -> x.sell(3));
    }

    // ---- promise 20; the fights themselves are FightEdgesTest's

    private static void attackFirstAndLastPlayer() {
        MudCouncil x = Edges.made(ActsEdgesTest::company);
        Check.due("the last player", x.attack(3), MudCouncil.NONE);
        x.rest();
        x.rest();
        Check.due("the first player", x.attack(0), MudCouncil.NONE);
        // The die shows 5, 2, then 1, 6, then 1, 2; then 3, 2, then 5, 4, then 1, 6.
        Check.due("the first player's health", x.healthOf(0), 20 - 5 - 1 - 1 - 1);
        Check.due("the last player's health", x.healthOf(3), 20 - 3 - 5);
        Check.due("who was not attacked", x.healthOf(1), 20);
    }

    private static void attackNoSuchPlayer() {
        for (int player : Edges.beyond(0, 2)) {
            Edges.outOfBounds("attack " + player + " of three", Edges::busy, x -> x.attack(player));
        }
        for (int player : Edges.beyond(0, 3)) {
            Edges.outOfBounds("attack " + player + " of four", ActsEdgesTest::company, x -> x.attack(player));
        }
    }

    private static void attackTheActorOrAnotherRoom() {
        Edges.illegalState("the actor", Edges::busy, x -> x.attack(0));
        Edges.illegalState("another room", Edges::busy, x -> x.attack(2));
        Edges.illegalState("the next actor itself", x -> {
            company(x);
            x.rest();
        }, x -> x.attack(1));
    }

    // ---- promise 21

    // Behind the seed 5 the die shows 3, 4 three times, so that the actor loses one in each round.
    private static void restUpToTwenty() {
        MudCouncil x = new MudCouncil();
        x.join(0, 0, 0);
        Check.due("full at first", x.rest(), 20);
        Check.due("still full", x.rest(), 20);
        x.join(0, 0, 0);
        x.seed(5);
        Check.due("attack by player 1", x.attack(0), MudCouncil.NONE);
        Check.due("three less", x.healthOf(1), 17);
        Check.due("18", restOf(1, x), 18);
        Check.due("19", restOf(1, x), 19);
        Check.due("20", restOf(1, x), 20);
        Check.due("20 at most", restOf(1, x), 20);
        Check.due("health", x.healthOf(1), 20);
    }

    private static int restOf(int player, MudCouncil x) {
        for (int i = 0; i < 9 && x.turn() != player; i++) {
            x.say(0);
        }
        return x.rest();
    }

    // ---- "with what a quest gave by it"

    private static Edges.Play rewarded(int kind, int first, int second) {
        return x -> {
            x.shop(0, 50);
            x.stock(0, 0, 5, 4);
            x.scatter(0, 0, 1);
            x.join(0, 10, 0);
            x.join(0, 0, 0);
            x.take(0);
            x.rest();
            x.quest(30);
            x.stage(0, kind, first, second);
            x.endow(30);
        };
    }

    private static void coinsAreToldWithTheReward() {
        Check.due("pay", Edges.made(rewarded(MudCouncil.VISIT, 0, 0)).pay(1, 10), 30);
        Check.due("pay, not fulfilled", Edges.made(rewarded(MudCouncil.VISIT, 1, 0)).pay(1, 10), 0);
        Check.due("buy", Edges.made(rewarded(MudCouncil.HOLD, 0, 2)).buy(0), 36);
        Check.due("buy, not fulfilled", Edges.made(rewarded(MudCouncil.HOLD, 0, 3)).buy(0), 6);
        Check.due("sell", Edges.made(rewarded(MudCouncil.VISIT, 0, 0)).sell(0), 42);
        Check.due("sell, not fulfilled", Edges.made(rewarded(MudCouncil.HOLD, 0, 1)).sell(0), 12);
    }
}
