/**
 * The boundary cases of promises 1 to 10: arguments at and beyond their ends, places that are all taken, reasons to
 * throw at once, and that nothing has changed behind a call that throws.
 */
final class MakingEdgesTest {
    public static void main(String[] args) {
        newObjectHasNoExitsAndNoWays();
        newObjectHasNoShopsAndNoGoods();
        newObjectHasNoPlayers();
        newObjectHasNoQuestsAndNoCalls();
        newObjectsFirstSeedIsOne();
        linkOfEachRoomAndDirection();
        linkOfNoSuchRoom();
        linkOfNoSuchDirection();
        linkOfARoomToItself();
        linkWhereAnExitIs();
        linkOfARoomWithAllExits();
        linkForTwoReasons();
        shopInEachRoom();
        shopOfNoSuchRoom();
        shopWithLeastAndMostCoins();
        shopWithCoinsOutOfRange();
        shopWhereAShopIs();
        shopForTwoReasons();
        stockInFirstAndLastRoomOfFirstAndLastKind();
        stockOfNoSuchRoomOrKind();
        stockOfLeastAndMostGoods();
        stockOfLeastAndGreatestPrice();
        stockSetsThePriceAnew();
        stockOutOfRange();
        stockWithoutAShop();
        stockForTwoReasons();
        scatterInFirstAndLastRoomOfFirstAndLastKind();
        scatterOfLeastAndMostGoods();
        scatterOfNoSuchRoomOrKind();
        scatterOutOfRange();
        scatterForTwoReasons();
        joinInFirstAndLastRoom();
        joinWithLeastAndMostCoins();
        joinWithLeastAndGreatestStrength();
        joinOfNoSuchRoom();
        joinOutOfRange();
        joinOfFourAndOneMore();
        joinForTwoReasons();
        questWithLeastAndGreatestReward();
        questOutOfRange();
        questsAreThreeAndNoMore();
        questForTwoReasons();
        stageOfFirstAndLastQuest();
        stageOfNoSuchQuest();
        stageOfFirstAndLastTarget();
        stageOfNoSuchTarget();
        stageOfNoSuchKind();
        stageOfLeastAndGreatestMeasure();
        stageWithMeasureOutOfRange();
        stageWhereSecondHasNoMeaning();
        stagesAreFourAndNoMore();
        stageOfAQuestThatIsBegun();
        stageForTwoReasons();
        endowLeastAndMost();
        endowOutOfRange();
        seedLeastAndGreatest();
        seedOutOfRange();
        Check.finish("MakingEdgesTest");
    }

    // ---- promise 1: "a world of rooms without exits, players, shops and quests"

    private static void newObjectHasNoExitsAndNoWays() {
        MudCouncil x = new MudCouncil();
        Edges.each(8, room -> Edges.each(4, direction ->
                Check.due("new exit", x.exit(room, direction), MudCouncil.NONE)));
        Edges.each(8, room -> Edges.each(8, other ->
                Check.due("new distance", x.distance(room, other), room == other ? 0 : MudCouncil.NONE)));
    }

    private static void newObjectHasNoShopsAndNoGoods() {
        MudCouncil x = new MudCouncil();
        Edges.each(8, room -> Check.due("new till", x.tillOf(room), MudCouncil.NONE));
        Edges.each(8, room -> Edges.each(5, kind -> Check.due("new stock", x.stockOf(room, kind), 0)));
        Edges.each(8, room -> Edges.each(5, kind -> Check.due("new floor", x.onFloor(room, kind), 0)));
        Edges.each(5, kind -> Check.due("new goods", x.allGoods(kind), 0));
        Check.due("new coins", x.allCoins(), 0);
        Check.due("new purse", x.purse(), 0);
    }

    private static void newObjectHasNoPlayers() {
        MudCouncil x = new MudCouncil();
        Check.due("new turn", x.turn(), MudCouncil.NONE);
        Edges.each(4, player -> Check.outOfBounds("new player", () -> x.roomOf(player)));
    }

    private static void newObjectHasNoQuestsAndNoCalls() {
        Edges.each(3, quest -> Edges.outOfBounds("new quest", x -> x.join(0, 0, 0), x -> x.stageOf(0, quest)));
        MudCouncil x = new MudCouncil();
        Check.due("new calls", x.calls(), 0);
        Check.due("the first quest", x.quest(0), 0);
    }

    // With the seed 1 the die shows 5, 2, then 1, 6, then 1, 2.
    private static void newObjectsFirstSeedIsOne() {
        MudCouncil x = new MudCouncil();
        x.join(0, 0, 0);
        x.join(0, 0, 0);
        x.attack(1);
        Check.due("the actor's health", x.healthOf(0), 20 - 5 - 1);
        Check.due("the rival's health", x.healthOf(1), 20 - 3);
    }

    // ---- promise 2

    private static void linkOfEachRoomAndDirection() {
        Edges.each(8, room -> Edges.each(4, direction -> Edges.each(8, other -> {
            if (room != other) {
                linkAlone(room, direction, other);
            }
        })));
    }

    private static void linkAlone(int room, int direction, int other) {
        MudCouncil x = new MudCouncil();
        x.link(room, direction, other);
        String what = "link " + room + " " + direction + " " + other;
        int back = (direction + 2) % 4;
        Edges.each(8, from -> Edges.each(4, exit -> {
            int due = from == room && exit == direction ? other : from == other && exit == back ? room : MudCouncil.NONE;
            Check.due(what, x.exit(from, exit), due);
        }));
    }

    private static void linkOfNoSuchRoom() {
        for (int room : Edges.beyond(0, 7)) {
            Edges.outOfBounds("link from room " + room, Edges::busy, x -> x.link(room, 0, 1));
            Edges.outOfBounds("link to room " + room, Edges::busy, x -> x.link(2, 0, room));
        }
    }

    private static void linkOfNoSuchDirection() {
        for (int direction : Edges.beyond(0, 3)) {
            Edges.outOfBounds("link by " + direction, Edges::busy, x -> x.link(2, direction, 3));
        }
    }

    private static void linkOfARoomToItself() {
        Edges.each(8, room -> Edges.illegalArgument("link of " + room + " to itself", Edges::nothing,
                x -> x.link(room, MudCouncil.EAST, room)));
    }

    private static void linkWhereAnExitIs() {
        Edges.each(4, direction -> {
            Edges.Play world = x -> x.link(0, direction, 7);
            int back = (direction + 2) % 4;
            Edges.illegalState("the exit is there", world, x -> x.link(0, direction, 1));
            Edges.illegalState("the exit back is there", world, x -> x.link(1, direction, 7));
            Edges.illegalState("the exit was made as one back", world, x -> x.link(7, back, 1));
            Edges.illegalState("the exit back was made first", world, x -> x.link(1, back, 0));
            Edges.illegalState("both are there", world, x -> x.link(0, direction, 7));
            Edges.illegalState("both are there, from behind", world, x -> x.link(7, back, 0));
        });
    }

    private static void linkOfARoomWithAllExits() {
        Edges.Play world = x -> Edges.each(4, direction -> x.link(0, direction, 1));
        MudCouncil x = Edges.made(world);
        Edges.each(4, direction -> Check.due("four exits to one room", x.exit(0, direction), 1));
        Edges.each(4, direction -> Check.due("four exits back", x.exit(1, direction), 0));
        Edges.each(4, direction ->
                Edges.illegalState("one exit more", world, y -> y.link(0, direction, 2)));
        Edges.each(4, direction ->
                Edges.illegalState("one exit back more", world, y -> y.link(2, direction, 0)));
    }

    private static void linkForTwoReasons() {
        Edges.Play world = x -> x.link(0, MudCouncil.EAST, 1);
        Edges.outOfBounds("no such rooms, both the same", world, x -> x.link(8, 0, 8));
        Edges.outOfBounds("no such room -1, both the same", world, x -> x.link(-1, 0, -1));
        Edges.outOfBounds("no such direction, both the same", world, x -> x.link(2, 4, 2));
        Edges.outOfBounds("no such other, the exit is there", world, x -> x.link(0, MudCouncil.EAST, 8));
        Edges.outOfBounds("no such room, the exit back is there", world, x -> x.link(-1, MudCouncil.EAST, 1));
        Edges.illegalArgument("both the same, the exit is there", world, x -> x.link(0, MudCouncil.EAST, 0));
        Edges.illegalArgument("both the same, the exit back is there", world, x -> x.link(1, MudCouncil.EAST, 1));
    }

    // ---- promise 3

    private static void shopInEachRoom() {
        MudCouncil x = new MudCouncil();
        Edges.each(8, room -> {
            Check.due("no till yet", x.tillOf(room), MudCouncil.NONE);
            x.shop(room, 10 + room);
        });
        Edges.each(8, room -> Check.due("till", x.tillOf(room), 10 + room));
        Check.due("all coins", x.allCoins(), 80 + 28);
    }

    private static void shopOfNoSuchRoom() {
        for (int room : Edges.beyond(0, 7)) {
            Edges.outOfBounds("shop in room " + room, Edges::busy, x -> x.shop(room, 5));
        }
    }

    private static void shopWithLeastAndMostCoins() {
        MudCouncil x = new MudCouncil();
        x.shop(0, 0);
        x.shop(7, 1000);
        Check.due("least", x.tillOf(0), 0);
        Check.due("most", x.tillOf(7), 1000);
        Check.due("stock", x.stock(0, 0, 1, 1), 1);
    }

    private static void shopWithCoinsOutOfRange() {
        for (int coins : Edges.beyond(0, 1000)) {
            Edges.illegalArgument("shop with " + coins, Edges::busy, x -> x.shop(3, coins));
        }
    }

    private static void shopWhereAShopIs() {
        Edges.illegalState("a shop is in room 0", Edges::busy, x -> x.shop(0, 1));
        Edges.illegalState("a shop without coins is in room 7", Edges::busy, x -> x.shop(7, 1));
        Edges.Play emptied = x -> {
            x.shop(0, 3);
            x.stock(0, 0, 0, 6);
            x.scatter(0, 0, 1);
            x.join(0, 0, 0);
            x.take(0);
            x.sell(0);
        };
        Check.due("the till was emptied", Edges.made(emptied).tillOf(0), 0);
        Edges.illegalState("a shop with an emptied till", emptied, x -> x.shop(0, 1));
    }

    private static void shopForTwoReasons() {
        Edges.outOfBounds("no such room, too few coins", Edges::busy, x -> x.shop(8, -1));
        Edges.outOfBounds("no such room, too many coins", Edges::busy, x -> x.shop(-1, 1001));
        Edges.illegalArgument("too few coins where a shop is", Edges::busy, x -> x.shop(0, -1));
        Edges.illegalArgument("too many coins where a shop is", Edges::busy, x -> x.shop(0, 1001));
    }

    // ---- promise 4

    private static void stockInFirstAndLastRoomOfFirstAndLastKind() {
        MudCouncil x = new MudCouncil();
        x.shop(0, 0);
        x.shop(7, 0);
        Check.due("first room, first kind", x.stock(0, 0, 1, 1), 1);
        Check.due("first room, last kind", x.stock(0, 4, 2, 1), 2);
        Check.due("last room, first kind", x.stock(7, 0, 3, 1), 3);
        Check.due("last room, last kind", x.stock(7, 4, 4, 1), 4);
        Edges.each(8, room -> Edges.each(5, kind -> {
            int due = room == 0 && kind == 0 ? 1 : room == 0 && kind == 4 ? 2 : room == 7 && kind == 0 ? 3
                    : room == 7 && kind == 4 ? 4 : 0;
            Check.due("stock of " + room + " " + kind, x.stockOf(room, kind), due);
        }));
    }

    private static void stockOfNoSuchRoomOrKind() {
        for (int room : Edges.beyond(0, 7)) {
            Edges.outOfBounds("stock in room " + room, Edges::busy, x -> x.stock(room, 0, 1, 1));
        }
        for (int kind : Edges.beyond(0, 4)) {
            Edges.outOfBounds("stock of kind " + kind, Edges::busy, x -> x.stock(0, kind, 1, 1));
        }
    }

    private static void stockOfLeastAndMostGoods() {
        MudCouncil x = new MudCouncil();
        x.shop(3, 0);
        Check.due("least", x.stock(3, 2, 0, 1), 0);
        Check.due("most", x.stock(3, 2, 20, 1), 20);
        Check.due("most again", x.stock(3, 2, 20, 1), 40);
        Check.due("least again", x.stock(3, 2, 0, 1), 40);
    }

    private static void stockOfLeastAndGreatestPrice() {
        Edges.Play world = x -> {
            x.shop(0, 100);
            x.join(0, 100, 0);
        };
        MudCouncil x = Edges.made(world, y -> y.stock(0, 0, 2, 50));
        Check.due("bought for the greatest price", x.buy(0), 50);
        Edges.illegalState("price 0 is not traded", y -> {
            world.on(y);
            y.stock(0, 0, 2, 0);
        }, y -> y.buy(0));
    }

    private static void stockSetsThePriceAnew() {
        Edges.Play world = x -> {
            x.shop(0, 100);
            x.join(0, 100, 0);
            x.stock(0, 0, 3, 9);
        };
        MudCouncil x = Edges.made(world, y -> y.stock(0, 0, 0, 4));
        Check.due("bought for the new price", x.buy(0), 96);
        Check.due("sold for half of it", x.sell(0), 98);
        MudCouncil other = Edges.made(world, y -> y.stock(0, 1, 1, 4));
        Check.due("the price of another kind", other.buy(0), 91);
        MudCouncil elsewhere = Edges.made(world, y -> y.shop(1, 0), y -> y.stock(1, 0, 1, 4));
        Check.due("the price in another room", elsewhere.buy(0), 91);
        Edges.illegalState("the new price 0", y -> {
            world.on(y);
            y.buy(0);
            y.stock(0, 0, 1, 0);
        }, y -> y.sell(0));
    }

    private static void stockOutOfRange() {
        for (int count : Edges.beyond(0, 20)) {
            Edges.illegalArgument("stock of " + count, Edges::busy, x -> x.stock(0, 0, count, 9));
        }
        for (int price : Edges.beyond(0, 50)) {
            Edges.illegalArgument("stock for " + price, Edges::busy, x -> x.stock(0, 0, 1, price));
        }
    }

    private static void stockWithoutAShop() {
        Edges.illegalState("no shop yet", Edges::nothing, x -> x.stock(0, 0, 1, 1));
        Edges.illegalState("no shop beside it", Edges::busy, x -> x.stock(1, 0, 1, 1));
        Edges.illegalState("no shop, no goods", Edges::busy, x -> x.stock(6, 4, 0, 0));
    }

    private static void stockForTwoReasons() {
        Edges.outOfBounds("no such room, too many", Edges::busy, x -> x.stock(8, 0, 21, 1));
        Edges.outOfBounds("no such room, too dear", Edges::busy, x -> x.stock(-1, 0, 1, 51));
        Edges.outOfBounds("no such kind, too few", Edges::busy, x -> x.stock(0, 5, -1, 1));
        Edges.outOfBounds("no such kind, too cheap", Edges::busy, x -> x.stock(0, -1, 1, -1));
        Edges.outOfBounds("no such kind, no shop", Edges::busy, x -> x.stock(1, 5, 1, 1));
        Edges.illegalArgument("too many, no shop", Edges::busy, x -> x.stock(1, 0, 21, 1));
        Edges.illegalArgument("too few, no shop", Edges::busy, x -> x.stock(1, 0, -1, 1));
        Edges.illegalArgument("too dear, no shop", Edges::busy, x -> x.stock(1, 0, 1, 51));
        Edges.illegalArgument("too cheap, no shop", Edges::busy, x -> x.stock(1, 0, 1, -1));
    }

    // ---- promise 5

    private static void scatterInFirstAndLastRoomOfFirstAndLastKind() {
        MudCouncil x = new MudCouncil();
        Check.due("first room, first kind", x.scatter(0, 0, 1), 1);
        Check.due("first room, last kind", x.scatter(0, 4, 2), 2);
        Check.due("last room, first kind", x.scatter(7, 0, 3), 3);
        Check.due("last room, last kind", x.scatter(7, 4, 4), 4);
        Edges.each(8, room -> Edges.each(5, kind -> {
            int due = room == 0 && kind == 0 ? 1 : room == 0 && kind == 4 ? 2 : room == 7 && kind == 0 ? 3
                    : room == 7 && kind == 4 ? 4 : 0;
            Check.due("floor of " + room + " " + kind, x.onFloor(room, kind), due);
        }));
    }

    private static void scatterOfLeastAndMostGoods() {
        MudCouncil x = new MudCouncil();
        Check.due("least", x.scatter(3, 2, 1), 1);
        Check.due("most", x.scatter(3, 2, 9), 10);
        Check.due("most again", x.scatter(3, 2, 9), 19);
    }

    private static void scatterOfNoSuchRoomOrKind() {
        for (int room : Edges.beyond(0, 7)) {
            Edges.outOfBounds("scatter in room " + room, Edges::busy, x -> x.scatter(room, 0, 1));
        }
        for (int kind : Edges.beyond(0, 4)) {
            Edges.outOfBounds("scatter kind " + kind, Edges::busy, x -> x.scatter(0, kind, 1));
        }
    }

    private static void scatterOutOfRange() {
        for (int count : Edges.beyond(1, 9)) {
            Edges.illegalArgument("scatter " + count, Edges::busy, x -> x.scatter(0, 0, count));
        }
    }

    private static void scatterForTwoReasons() {
        Edges.outOfBounds("no such room, too few", Edges::busy, x -> x.scatter(-1, 0, 0));
        Edges.outOfBounds("no such room, too many", Edges::busy, x -> x.scatter(8, 0, 10));
        Edges.outOfBounds("no such kind, too few", Edges::busy, x -> x.scatter(0, -1, 0));
        Edges.outOfBounds("no such kind, too many", Edges::busy, x -> x.scatter(0, 5, 10));
    }

    // ---- promise 6

    private static void joinInFirstAndLastRoom() {
        MudCouncil x = new MudCouncil();
        Check.due("first room", x.join(0, 5, 1), 0);
        Check.due("last room", x.join(7, 6, 2), 1);
        Check.due("room of the first", x.roomOf(0), 0);
        Check.due("room of the second", x.roomOf(1), 7);
    }

    private static void joinWithLeastAndMostCoins() {
        MudCouncil x = new MudCouncil();
        x.join(0, 0, 0);
        x.join(0, 200, 0);
        Check.due("least", x.coinsOf(0), 0);
        Check.due("most", x.coinsOf(1), 200);
    }

    // Behind the seed 5 the die shows 3, 4 three times, so that strengths 6 and 0 leave 20 - 3 * 5 of the weaker one.
    private static void joinWithLeastAndGreatestStrength() {
        MudCouncil x = new MudCouncil();
        x.join(0, 0, 6);
        x.join(0, 0, 0);
        x.seed(5);
        Check.due("attack", x.attack(1), MudCouncil.NONE);
        Check.due("health of the greatest strength", x.healthOf(0), 20);
        Check.due("health of the least strength", x.healthOf(1), 5);
    }

    private static void joinOfNoSuchRoom() {
        for (int room : Edges.beyond(0, 7)) {
            Edges.outOfBounds("join in room " + room, Edges::busy, x -> x.join(room, 0, 0));
        }
    }

    private static void joinOutOfRange() {
        for (int coins : Edges.beyond(0, 200)) {
            Edges.illegalArgument("join with coins " + coins, Edges::busy, x -> x.join(0, coins, 0));
        }
        for (int strength : Edges.beyond(0, 6)) {
            Edges.illegalArgument("join with strength " + strength, Edges::busy, x -> x.join(0, 0, strength));
        }
    }

    private static void fourPlayers(MudCouncil x) {
        Edges.each(4, player -> Check.due("join", x.join(player, 10 + player, player), player));
    }

    private static void joinOfFourAndOneMore() {
        MudCouncil x = Edges.made(MakingEdgesTest::fourPlayers);
        Edges.each(4, player -> Check.due("room", x.roomOf(player), player));
        Edges.each(4, player -> Check.due("coins", x.coinsOf(player), 10 + player));
        Edges.each(4, player -> Check.due("health at first", x.healthOf(player), 20));
        Edges.each(4, player -> Check.due("ready time at first", x.readyAt(player), 0));
        Edges.illegalState("a fifth player", MakingEdgesTest::fourPlayers, y -> y.join(0, 0, 0));
        Edges.illegalState("a fifth player behind an act", y -> {
            fourPlayers(y);
            y.rest();
        }, y -> y.join(7, 200, 6));
    }

    private static void joinForTwoReasons() {
        Edges.outOfBounds("no such room, too few coins", Edges::busy, x -> x.join(8, -1, 0));
        Edges.outOfBounds("no such room, too strong", Edges::busy, x -> x.join(-1, 0, 7));
        Edges.outOfBounds("no such room, a fifth", MakingEdgesTest::fourPlayers, x -> x.join(8, 0, 0));
        Edges.illegalArgument("too many coins, a fifth", MakingEdgesTest::fourPlayers, x -> x.join(0, 201, 0));
        Edges.illegalArgument("too weak, a fifth", MakingEdgesTest::fourPlayers, x -> x.join(0, 0, -1));
    }

    // ---- promise 7

    private static int coinsForOneStage(int reward) {
        MudCouncil x = new MudCouncil();
        x.quest(reward);
        x.stage(0, MudCouncil.VISIT, 0, 0);
        x.endow(1000);
        x.join(0, 0, 0);
        x.rest();
        return x.coinsOf(0);
    }

    private static void questWithLeastAndGreatestReward() {
        Check.due("least", coinsForOneStage(0), 0);
        Check.due("greatest", coinsForOneStage(100), 100);
    }

    private static void questOutOfRange() {
        for (int reward : Edges.beyond(0, 100)) {
            Edges.illegalArgument("quest for " + reward, Edges::busy, x -> x.quest(reward));
        }
    }

    private static void threeQuests(MudCouncil x) {
        Edges.each(3, quest -> Check.due("quest", x.quest(10), quest));
    }

    private static void questsAreThreeAndNoMore() {
        MudCouncil x = Edges.made(MakingEdgesTest::threeQuests, y -> y.join(0, 0, 0));
        Edges.each(3, quest -> Check.due("without stages", x.stageOf(0, quest), 0));
        Edges.illegalState("a fourth quest", MakingEdgesTest::threeQuests, y -> y.quest(0));
        Edges.illegalState("a fourth quest for the most", MakingEdgesTest::threeQuests, y -> y.quest(100));
    }

    private static void questForTwoReasons() {
        Edges.illegalArgument("too little, a fourth", MakingEdgesTest::threeQuests, x -> x.quest(-1));
        Edges.illegalArgument("too much, a fourth", MakingEdgesTest::threeQuests, x -> x.quest(101));
    }

    // ---- promise 8

    private static void stageOfFirstAndLastQuest() {
        MudCouncil x = Edges.made(MakingEdgesTest::threeQuests);
        Check.due("first quest", x.stage(0, MudCouncil.VISIT, 0, 0), 1);
        Check.due("last quest", x.stage(2, MudCouncil.VISIT, 1, 0), 1);
        Check.due("last quest's second", x.stage(2, MudCouncil.VISIT, 0, 0), 2);
        x.join(0, 0, 0);
        x.rest();
        Check.due("reached of the first", x.stageOf(0, 0), 1);
        Check.due("reached of the one between", x.stageOf(0, 1), 0);
        Check.due("reached of the last", x.stageOf(0, 2), 0);
    }

    private static void stageOfNoSuchQuest() {
        Edges.outOfBounds("no quest yet", Edges::nothing, x -> x.stage(0, MudCouncil.VISIT, 0, 0));
        for (int quest : Edges.beyond(0, 1)) {
            Edges.outOfBounds("quest " + quest + " of two", Edges::busy, x -> x.stage(quest, MudCouncil.VISIT, 0, 0));
        }
        for (int quest : Edges.beyond(0, 2)) {
            Edges.outOfBounds("quest " + quest + " of three", MakingEdgesTest::threeQuests,
                    x -> x.stage(quest, MudCouncil.VISIT, 0, 0));
        }
    }

    private static void stageOfFirstAndLastTarget() {
        MudCouncil x = Edges.made(MakingEdgesTest::threeQuests);
        Check.due("visit the first room", x.stage(0, MudCouncil.VISIT, 0, 0), 1);
        Check.due("visit the last room", x.stage(0, MudCouncil.VISIT, 7, 0), 2);
        Check.due("hold the first kind", x.stage(0, MudCouncil.HOLD, 0, 1), 3);
        Check.due("hold the last kind", x.stage(0, MudCouncil.HOLD, 4, 1), 4);
        Check.due("say in the first room", x.stage(1, MudCouncil.SAY, 0, 0), 1);
        Check.due("say in the last room", x.stage(1, MudCouncil.SAY, 7, 0), 2);
        Check.due("beat the first player, not joined yet", x.stage(1, MudCouncil.BEAT, 0, 0), 3);
        Check.due("beat the last player, not joined yet", x.stage(1, MudCouncil.BEAT, 3, 0), 4);
    }

    private static void stageOfNoSuchTarget() {
        for (int room : Edges.beyond(0, 7)) {
            Edges.outOfBounds("visit room " + room, Edges::busy, x -> x.stage(0, MudCouncil.VISIT, room, 0));
            Edges.outOfBounds("say in room " + room, Edges::busy, x -> x.stage(0, MudCouncil.SAY, room, 0));
        }
        for (int kind : Edges.beyond(0, 4)) {
            Edges.outOfBounds("hold kind " + kind, Edges::busy, x -> x.stage(0, MudCouncil.HOLD, kind, 1));
        }
        for (int player : Edges.beyond(0, 3)) {
            Edges.outOfBounds("beat player " + player, Edges::busy, x -> x.stage(0, MudCouncil.BEAT, player, 0));
        }
    }

    private static void stageOfNoSuchKind() {
        for (int kind : Edges.beyond(MudCouncil.VISIT, MudCouncil.BEAT)) {
            Edges.illegalArgument("stage of kind " + kind, Edges::busy, x -> x.stage(0, kind, 0, 1));
            stageOfNoSuchKindNamesNothing(kind);
        }
    }

    // Only a kind that there is says what "first" and "second" are, so that they may be anything here.
    private static void stageOfNoSuchKindNamesNothing(int kind) {
        for (int first : new int[] {Integer.MIN_VALUE, -1, 3, 4, 5, 7, 8, Integer.MAX_VALUE}) {
            Edges.illegalArgument("stage of kind " + kind + ", first " + first, Edges::busy,
                    x -> x.stage(0, kind, first, 100));
            Edges.outOfBounds("stage of no quest, kind " + kind + ", first " + first, Edges::busy,
                    x -> x.stage(2, kind, first, 100));
        }
    }

    private static void stageOfLeastAndGreatestMeasure() {
        MudCouncil x = Edges.made(MakingEdgesTest::threeQuests);
        Check.due("hold least", x.stage(0, MudCouncil.HOLD, 0, 1), 1);
        Check.due("hold most", x.stage(0, MudCouncil.HOLD, 0, 9), 2);
        Check.due("least word", x.stage(1, MudCouncil.SAY, 0, 0), 1);
        Check.due("greatest word", x.stage(1, MudCouncil.SAY, 0, 99), 2);
        x.join(0, 0, 0);
        x.scatter(0, 0, 9);
        x.take(0);
        Check.due("one is held", x.stageOf(0, 0), 1);
        Edges.each(7, i -> x.take(0));
        Check.due("eight are not nine", x.stageOf(0, 0), 1);
        x.take(0);
        Check.due("nine are held", x.stageOf(0, 0), 2);
        x.say(0);
        Check.due("the least word is said", x.stageOf(0, 1), 1);
        x.say(99);
        Check.due("the greatest word is said", x.stageOf(0, 1), 2);
    }

    private static void stageWithMeasureOutOfRange() {
        for (int count : Edges.beyond(1, 9)) {
            Edges.illegalArgument("hold " + count, Edges::busy, x -> x.stage(0, MudCouncil.HOLD, 0, count));
        }
        for (int word : Edges.beyond(0, 99)) {
            Edges.illegalArgument("say " + word, Edges::busy, x -> x.stage(0, MudCouncil.SAY, 0, word));
        }
    }

    private static void stageWhereSecondHasNoMeaning() {
        for (int second : new int[] {Integer.MIN_VALUE, -1, 0, 10, 100, Integer.MAX_VALUE}) {
            MudCouncil x = Edges.made(MakingEdgesTest::threeQuests);
            Check.due("visit", x.stage(0, MudCouncil.VISIT, 0, second), 1);
            Check.due("beat", x.stage(1, MudCouncil.BEAT, 1, second), 1);
            x.join(0, 0, 6);
            x.join(0, 0, 0);
            x.seed(6);
            Check.due("beaten", x.attack(1), 1);
            Check.due("visited all the same", x.stageOf(0, 0), 1);
            Check.due("beaten all the same", x.stageOf(0, 1), 1);
        }
    }

    private static void fourStages(MudCouncil x) {
        threeQuests(x);
        Edges.each(4, stage -> Check.due("stage", x.stage(2, MudCouncil.VISIT, stage, 0), stage + 1));
    }

    private static void stagesAreFourAndNoMore() {
        Edges.illegalState("a fifth visit", MakingEdgesTest::fourStages, x -> x.stage(2, MudCouncil.VISIT, 0, 0));
        Edges.illegalState("a fifth hold", MakingEdgesTest::fourStages, x -> x.stage(2, MudCouncil.HOLD, 0, 1));
        Edges.illegalState("a fifth say", MakingEdgesTest::fourStages, x -> x.stage(2, MudCouncil.SAY, 0, 0));
        Edges.illegalState("a fifth beat", MakingEdgesTest::fourStages, x -> x.stage(2, MudCouncil.BEAT, 0, 0));
        MudCouncil x = Edges.made(MakingEdgesTest::fourStages);
        Check.due("another quest's first", x.stage(1, MudCouncil.VISIT, 0, 0), 1);
    }

    private static void begunBy(int beginner, MudCouncil x) {
        x.quest(1);
        x.quest(1);
        x.stage(1, MudCouncil.VISIT, 5, 0);
        x.stage(1, MudCouncil.HOLD, 0, 9);
        Edges.each(4, player -> x.join(player == beginner ? 5 : 0, 0, 0));
        Edges.each(4, player -> x.rest());
    }

    private static void stageOfAQuestThatIsBegun() {
        Edges.each(4, beginner -> {
            Edges.Play world = x -> begunBy(beginner, x);
            Check.due("begun", Edges.made(world).stageOf(beginner, 1), 1);
            Edges.illegalState("begun by " + beginner, world, x -> x.stage(1, MudCouncil.VISIT, 0, 0));
            Check.due("the other quest", Edges.made(world).stage(0, MudCouncil.VISIT, 0, 0), 1);
        });
        Edges.Play ended = x -> {
            x.quest(1);
            x.stage(0, MudCouncil.VISIT, 0, 0);
            x.join(0, 0, 0);
            x.rest();
        };
        Edges.illegalState("ended by a player", ended, x -> x.stage(0, MudCouncil.VISIT, 0, 0));
    }

    private static void stageForTwoReasons() {
        Edges.Play full = MakingEdgesTest::fourStages;
        Edges.Play begun = x -> begunBy(3, x);
        Edges.outOfBounds("no such quest or kind", full, x -> x.stage(3, 4, 0, 0));
        Edges.outOfBounds("no such quest, too many", full, x -> x.stage(-1, MudCouncil.HOLD, 0, 10));
        Edges.outOfBounds("no such kind of goods, too few", full, x -> x.stage(0, MudCouncil.HOLD, 5, 0));
        Edges.outOfBounds("no such room, no such word", full, x -> x.stage(0, MudCouncil.SAY, -1, 100));
        Edges.outOfBounds("no such room, a fifth", full, x -> x.stage(2, MudCouncil.VISIT, 8, 0));
        Edges.outOfBounds("no such player, a fifth", full, x -> x.stage(2, MudCouncil.BEAT, 4, 0));
        Edges.outOfBounds("no such room, begun", begun, x -> x.stage(1, MudCouncil.VISIT, -1, 0));
        Edges.illegalArgument("no such kind, a fifth", full, x -> x.stage(2, 4, 0, 0));
        Edges.illegalArgument("too many, a fifth", full, x -> x.stage(2, MudCouncil.HOLD, 0, 10));
        Edges.illegalArgument("no such word, a fifth", full, x -> x.stage(2, MudCouncil.SAY, 0, 100));
        Edges.illegalArgument("no such kind, begun", begun, x -> x.stage(1, -1, 0, 0));
        Edges.illegalArgument("too few, begun", begun, x -> x.stage(1, MudCouncil.HOLD, 0, 0));
        Edges.illegalArgument("no such word, begun", begun, x -> x.stage(1, MudCouncil.SAY, 0, -1));
    }

    // ---- promise 9

    private static void endowLeastAndMost() {
        MudCouncil x = new MudCouncil();
        Check.due("empty at first", x.purse(), 0);
        Check.due("least", x.endow(1), 1);
        Check.due("most", x.endow(1000), 1001);
        Check.due("most again", x.endow(1000), 2001);
        Check.due("purse", x.purse(), 2001);
    }

    private static void endowOutOfRange() {
        for (int coins : Edges.beyond(1, 1000)) {
            Edges.illegalArgument("endow " + coins, Edges::busy, x -> x.endow(coins));
        }
    }

    // ---- promise 10

    private static MudCouncil foughtWith(int seed) {
        MudCouncil x = new MudCouncil();
        x.join(0, 0, 0);
        x.join(0, 0, 0);
        x.seed(seed);
        Check.due("nobody is beaten", x.attack(1), MudCouncil.NONE);
        return x;
    }

    // Behind 0 the die shows 2, 5, then 6, 3, then 6, 3; behind 65535 it shows 3, 2, then 5, 4, then 5, 6.
    private static void seedLeastAndGreatest() {
        Check.due("least, the actor", foughtWith(0).healthOf(0), 17);
        Check.due("least, the rival", foughtWith(0).healthOf(1), 14);
        Check.due("greatest, the actor", foughtWith(65535).healthOf(0), 19);
        Check.due("greatest, the rival", foughtWith(65535).healthOf(1), 18);
    }

    private static void seedOutOfRange() {
        for (int seed : Edges.beyond(0, 65535)) {
            Edges.illegalArgument("seed " + seed, Edges::busy, x -> x.seed(seed));
        }
    }
}
