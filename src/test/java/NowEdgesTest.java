/** The boundary cases of promises 22 to 37: questions of the first and the last, of none, and of what is not there. */
final class NowEdgesTest {
    public static void main(String[] args) {
        turnWithoutPlayersAndWithOne();
        playersOfNone();
        playersFromFirstToLast();
        playersBeyondTheLast();
        playersGoods();
        playersGoodsOfNoSuchKind();
        wordsOfNoSuchPlayer();
        wordsOldestAndLatest();
        stagesOfFirstAndLast();
        stagesOfNoSuchPlayer();
        stagesOfNoSuchQuest();
        exitsOfFirstAndLast();
        exitsOfNoSuchRoomOrDirection();
        distanceToItself();
        distanceOfOne();
        distanceOfSeven();
        distanceRoundARing();
        distanceToWhereOneCannotCome();
        distanceOfNoSuchRoom();
        floorOfFirstAndLast();
        floorOfNoSuchRoomOrKind();
        stockOfFirstAndLast();
        stockWithoutAShop();
        stockOfNoSuchRoomOrKind();
        tillOfFirstAndLast();
        tillOfNoSuchRoom();
        purseAtFirstAndThen();
        coinsOfAll();
        goodsOfAll();
        goodsOfNoSuchKind();
        questionsChangeNothing();
        Check.finish("NowEdgesTest");
    }

    private static void four(MudCouncil x) {
        Edges.each(4, player -> x.join(7 - player, 50 * player, player));
    }

    // ---- promises 22 to 27

    private static void turnWithoutPlayersAndWithOne() {
        MudCouncil x = new MudCouncil();
        Check.due("without players", x.turn(), MudCouncil.NONE);
        x.quest(1);
        x.endow(1);
        Check.due("still without players", x.turn(), MudCouncil.NONE);
        x.join(0, 0, 0);
        Check.due("with one", x.turn(), 0);
        x.rest();
        Check.due("with one who acted", x.turn(), 0);
    }

    private static void noSuchPlayer(Edges.Play world, int player) {
        Edges.outOfBounds("ready time of " + player, world, x -> x.readyAt(player));
        Edges.outOfBounds("room of " + player, world, x -> x.roomOf(player));
        Edges.outOfBounds("coins of " + player, world, x -> x.coinsOf(player));
        Edges.outOfBounds("health of " + player, world, x -> x.healthOf(player));
        Edges.outOfBounds("goods of " + player, world, x -> x.goodsOf(player, 0));
    }

    private static void playersOfNone() {
        for (int player : Edges.beyond(0, -1)) {
            noSuchPlayer(Edges::nothing, player);
        }
    }

    private static void playersFromFirstToLast() {
        MudCouncil x = Edges.made(NowEdgesTest::four);
        x.rest();
        x.say(0);
        Edges.each(4, player -> {
            Check.due("room of " + player, x.roomOf(player), 7 - player);
            Check.due("coins of " + player, x.coinsOf(player), 50 * player);
            Check.due("health of " + player, x.healthOf(player), 20);
            Check.due("ready time of " + player, x.readyAt(player), player == 0 ? 2 : player == 1 ? 1 : 0);
        });
    }

    private static void playersBeyondTheLast() {
        for (int count = 1; count <= 4; count++) {
            int joined = count;
            Edges.Play world = x -> Edges.each(joined, player -> x.join(0, 9, 0));
            for (int player : Edges.beyond(0, count - 1)) {
                noSuchPlayer(world, player);
            }
            Check.due("the last of " + count, Edges.made(world).coinsOf(count - 1), 9);
        }
    }

    // Each player takes one of kind 4 and one of the kind that bears the player's number.
    private static void playersGoods() {
        MudCouncil x = Edges.made(NowEdgesTest::four);
        Edges.each(4, player -> {
            x.scatter(7 - player, player, 9);
            x.scatter(7 - player, 4, 9);
        });
        Edges.each(4, player -> x.take(4));
        Edges.each(4, player -> x.take(player));
        Edges.each(4, player -> Edges.each(5, kind ->
                Check.due("goods of " + player, x.goodsOf(player, kind), kind == 4 || kind == player ? 1 : 0)));
    }

    private static void playersGoodsOfNoSuchKind() {
        for (int kind : Edges.beyond(0, 4)) {
            Edges.outOfBounds("goods of the first, kind " + kind, NowEdgesTest::four, x -> x.goodsOf(0, kind));
            Edges.outOfBounds("goods of the last, kind " + kind, NowEdgesTest::four, x -> x.goodsOf(3, kind));
            Edges.outOfBounds("goods of nobody, kind " + kind, NowEdgesTest::four, x -> x.goodsOf(4, kind));
        }
    }

    // ---- promise 28; TermsEdgesTest looks at how many words are kept

    private static void wordsOfNoSuchPlayer() {
        Edges.outOfBounds("nobody is there", Edges::nothing, x -> x.heard(0, 0));
        for (int player : Edges.beyond(0, 1)) {
            Edges.outOfBounds("words of " + player, x -> {
                x.join(0, 0, 0);
                x.join(0, 0, 0);
                x.say(1);
                x.say(2);
            }, x -> x.heard(player, 0));
        }
    }

    private static void wordsOldestAndLatest() {
        MudCouncil x = new MudCouncil();
        Edges.each(4, player -> x.join(0, 0, 0));
        Edges.each(4, player -> x.say(player == 0 ? 0 : 99));
        Check.due("the latest of the first player", x.heard(0, 0), 399);
        Check.due("the oldest of the first player", x.heard(0, 2), 199);
        Check.due("the latest of the last player", x.heard(3, 0), 299);
        Check.due("the oldest of the last player", x.heard(3, 2), 0);
        Check.outOfBounds("none ahead of the oldest", () -> x.heard(3, 3));
    }

    // ---- promise 29

    private static void threeQuests(MudCouncil x) {
        Edges.each(3, quest -> {
            x.quest(0);
            x.stage(quest, MudCouncil.SAY, 0, 10 + quest);
            x.stage(quest, MudCouncil.SAY, 0, 20 + quest);
        });
        Edges.each(4, player -> x.join(0, 0, 0));
    }

    private static void stagesOfFirstAndLast() {
        MudCouncil x = Edges.made(NowEdgesTest::threeQuests);
        x.say(10);
        x.say(11);
        x.say(0);
        x.say(12);
        x.say(20);
        int[][] due = {{2, 0, 0}, {0, 1, 0}, {0, 0, 0}, {0, 0, 1}};
        Edges.each(4, player -> Edges.each(3, quest ->
                Check.due("quest " + quest + " of " + player, x.stageOf(player, quest), due[player][quest])));
    }

    private static void stagesOfNoSuchPlayer() {
        for (int player : Edges.beyond(0, 3)) {
            Edges.outOfBounds("stages of " + player, NowEdgesTest::threeQuests, x -> x.stageOf(player, 0));
        }
        Edges.outOfBounds("nobody is there", x -> x.quest(1), x -> x.stageOf(0, 0));
        Edges.outOfBounds("the second of one", Edges::busy, x -> x.stageOf(3, 0));
    }

    private static void stagesOfNoSuchQuest() {
        for (int quest : Edges.beyond(0, 2)) {
            Edges.outOfBounds("quest " + quest + " of three", NowEdgesTest::threeQuests, x -> x.stageOf(3, quest));
        }
        for (int quest : Edges.beyond(0, 1)) {
            Edges.outOfBounds("quest " + quest + " of two", Edges::busy, x -> x.stageOf(0, quest));
        }
        for (int quest : Edges.beyond(0, -1)) {
            Edges.outOfBounds("quest " + quest + " of none", NowEdgesTest::four, x -> x.stageOf(0, quest));
        }
        Edges.outOfBounds("no such player nor quest", NowEdgesTest::threeQuests, x -> x.stageOf(4, 3));
    }

    // ---- promise 30

    private static void exitsOfFirstAndLast() {
        MudCouncil x = new MudCouncil();
        x.link(0, MudCouncil.NORTH, 7);
        x.link(0, MudCouncil.WEST, 7);
        int[] first = {7, MudCouncil.NONE, MudCouncil.NONE, 7};
        int[] last = {MudCouncil.NONE, 0, 0, MudCouncil.NONE};
        Edges.each(4, direction -> Check.due("exit of the first", x.exit(0, direction), first[direction]));
        Edges.each(4, direction -> Check.due("exit of the last", x.exit(7, direction), last[direction]));
        Edges.each(4, direction -> Check.due("exit of another", x.exit(1, direction), MudCouncil.NONE));
    }

    private static void exitsOfNoSuchRoomOrDirection() {
        for (int room : Edges.beyond(0, 7)) {
            Edges.outOfBounds("exit of room " + room, Edges::busy, x -> x.exit(room, 0));
        }
        for (int direction : Edges.beyond(0, 3)) {
            Edges.outOfBounds("exit by " + direction, Edges::busy, x -> x.exit(0, direction));
            Edges.outOfBounds("exit of the last by " + direction, Edges::busy, x -> x.exit(7, direction));
        }
    }

    // ---- promise 31

    private static void distanceToItself() {
        MudCouncil x = Edges.made(Edges::busy);
        Edges.each(8, room -> Check.due("to itself", x.distance(room, room), 0));
    }

    private static void distanceOfOne() {
        Edges.each(4, direction -> {
            MudCouncil x = new MudCouncil();
            x.link(0, direction, 7);
            Check.due("there", x.distance(0, 7), 1);
            Check.due("back", x.distance(7, 0), 1);
        });
    }

    private static void distanceOfSeven() {
        MudCouncil x = new MudCouncil();
        Edges.each(7, room -> x.link(room, MudCouncil.NORTH, room + 1));
        Edges.each(8, room -> Edges.each(8, other ->
                Check.due("in a row", x.distance(room, other), Math.abs(room - other))));
    }

    private static void distanceRoundARing() {
        MudCouncil x = new MudCouncil();
        Edges.each(8, room -> x.link(room, MudCouncil.EAST, (room + 1) % 8));
        Edges.each(8, room -> Edges.each(8, other -> {
            int way = Math.abs(room - other);
            Check.due("in a ring", x.distance(room, other), Math.min(way, 8 - way));
        }));
    }

    private static void distanceToWhereOneCannotCome() {
        MudCouncil x = new MudCouncil();
        Edges.each(3, room -> x.link(room, MudCouncil.EAST, room + 1));
        Edges.each(3, room -> x.link(room + 4, MudCouncil.EAST, room + 5));
        Edges.each(4, room -> Edges.each(4, other -> {
            Check.due("to the other half", x.distance(room, 4 + other), MudCouncil.NONE);
            Check.due("from the other half", x.distance(4 + other, room), MudCouncil.NONE);
        }));
        x.link(7, MudCouncil.EAST, 0);
        Check.due("one link more", x.distance(4, 3), 7);
    }

    private static void distanceOfNoSuchRoom() {
        for (int room : Edges.beyond(0, 7)) {
            Edges.outOfBounds("distance from " + room, Edges::busy, x -> x.distance(room, 0));
            Edges.outOfBounds("distance to " + room, Edges::busy, x -> x.distance(0, room));
            Edges.outOfBounds("distance of no rooms " + room, Edges::busy, x -> x.distance(room, room));
        }
    }

    // ---- promises 32 to 34

    private static void floorOfFirstAndLast() {
        MudCouncil x = new MudCouncil();
        Edges.each(8, room -> Edges.each(5, kind -> x.scatter(room, kind, 1 + (room + kind) % 9)));
        Edges.each(8, room -> Edges.each(5, kind ->
                Check.due("floor", x.onFloor(room, kind), 1 + (room + kind) % 9)));
    }

    private static void floorOfNoSuchRoomOrKind() {
        for (int room : Edges.beyond(0, 7)) {
            Edges.outOfBounds("floor of " + room, Edges::busy, x -> x.onFloor(room, 0));
        }
        for (int kind : Edges.beyond(0, 4)) {
            Edges.outOfBounds("floor of the first, kind " + kind, Edges::busy, x -> x.onFloor(0, kind));
            Edges.outOfBounds("floor of the last, kind " + kind, Edges::busy, x -> x.onFloor(7, kind));
        }
    }

    private static void stockOfFirstAndLast() {
        MudCouncil x = new MudCouncil();
        Edges.each(8, room -> {
            x.shop(room, 0);
            Edges.each(5, kind -> x.stock(room, kind, room + kind, 1));
        });
        Edges.each(8, room -> Edges.each(5, kind ->
                Check.due("stock", x.stockOf(room, kind), room + kind)));
    }

    private static void stockWithoutAShop() {
        MudCouncil x = new MudCouncil();
        Edges.each(8, room -> Edges.each(5, kind -> x.scatter(room, kind, 9)));
        Edges.each(8, room -> Edges.each(5, kind -> Check.due("no shop", x.stockOf(room, kind), 0)));
        x.shop(3, 9);
        Edges.each(5, kind -> Check.due("empty at first", x.stockOf(3, kind), 0));
    }

    private static void stockOfNoSuchRoomOrKind() {
        for (int room : Edges.beyond(0, 7)) {
            Edges.outOfBounds("stock of " + room, Edges::busy, x -> x.stockOf(room, 0));
        }
        for (int kind : Edges.beyond(0, 4)) {
            Edges.outOfBounds("stock, kind " + kind, Edges::busy, x -> x.stockOf(0, kind));
            Edges.outOfBounds("stock without a shop, kind " + kind, Edges::busy, x -> x.stockOf(1, kind));
        }
    }

    private static void tillOfFirstAndLast() {
        MudCouncil x = new MudCouncil();
        x.shop(0, 0);
        x.shop(7, 1000);
        Edges.each(8, room ->
                Check.due("till", x.tillOf(room), room == 0 ? 0 : room == 7 ? 1000 : MudCouncil.NONE));
    }

    private static void tillOfNoSuchRoom() {
        for (int room : Edges.beyond(0, 7)) {
            Edges.outOfBounds("till of " + room, Edges::busy, x -> x.tillOf(room));
        }
    }

    // ---- promises 35 to 37

    private static void purseAtFirstAndThen() {
        MudCouncil x = new MudCouncil();
        Check.due("empty at first", x.purse(), 0);
        x.shop(0, 9);
        x.join(0, 9, 0);
        Check.due("no coins of players and tills", x.purse(), 0);
        x.endow(1);
        Check.due("one", x.purse(), 1);
    }

    private static void coinsOfAll() {
        MudCouncil x = new MudCouncil();
        Check.due("none", x.allCoins(), 0);
        x.endow(1);
        Check.due("of the purse", x.allCoins(), 1);
        Edges.each(8, room -> x.shop(room, room == 0 ? 0 : 1 << room));
        Check.due("of all tills", x.allCoins(), 255);
        Edges.each(4, player -> x.join(0, 10, 0));
        Check.due("of all players", x.allCoins(), 295);
    }

    private static void goodsOfAll() {
        MudCouncil x = new MudCouncil();
        Edges.each(5, kind -> Check.due("none", x.allGoods(kind), 0));
        Edges.each(8, room -> Edges.each(5, kind -> x.scatter(room, kind, 1 + kind)));
        Edges.each(5, kind -> Check.due("on all floors", x.allGoods(kind), 8 * (1 + kind)));
        Edges.each(8, room -> {
            x.shop(room, 0);
            Edges.each(5, kind -> x.stock(room, kind, 10 * kind % 20, 0));
        });
        int[] due = {8, 16 + 80, 24, 32 + 80, 40};
        Edges.each(5, kind -> Check.due("in all stocks", x.allGoods(kind), due[kind]));
        Edges.each(4, player -> x.join(player * 2, 0, 0));
        Edges.each(4, player -> x.take(player));
        Edges.each(5, kind -> Check.due("of all players", x.allGoods(kind), due[kind]));
    }

    private static void goodsOfNoSuchKind() {
        for (int kind : Edges.beyond(0, 4)) {
            Edges.outOfBounds("all goods of kind " + kind, Edges::busy, x -> x.allGoods(kind));
            Edges.outOfBounds("no goods of kind " + kind, Edges::nothing, x -> x.allGoods(kind));
        }
    }

    private static void questionsChangeNothing() {
        MudCouncil x = Edges.made(Edges::busy);
        Check.due("asked twice", Edges.now(x), Edges.now(x));
        MudCouncil y = Edges.made(Edges::busy);
        Edges.each(5, i -> y.turnAfter(i));
        Edges.each(8, room -> y.distance(0, room));
        Check.due("asked of the past and of ways", Edges.now(y), Edges.now(Edges.made(Edges::busy)));
    }
}
