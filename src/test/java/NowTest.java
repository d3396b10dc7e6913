/** Promises 22 to 37: the world as it is. */
final class NowTest {
    public static void main(String[] args) {
        promise22Turn();
        promise23ReadyAt();
        promises24To27OfPlayers();
        promise28Heard();
        promise29StageOf();
        promise30Exit();
        promise31Distance();
        promises32To34OfRooms();
        promises35To37Sums();
        questionsAreNotKept();
        Check.finish("NowTest");
    }

    private static void promise22Turn() {
        MudCouncil x = new MudCouncil();
        Check.due("without players", x.turn(), MudCouncil.NONE);
        x.join(0, 0, 0);
        x.rest();
        Check.due("the only one", x.turn(), 0);
        x.join(0, 0, 0);
        x.join(0, 0, 0);
        Check.due("the least ready time, the lowest number", x.turn(), 1);
        x.say(0);
        Check.due("the least ready time", x.turn(), 2);
        x.rest();
        Check.due("of 2, 1, 2", x.turn(), 1);
        x.say(0);
        Check.due("of 2, 2, 2", x.turn(), 0);
        x.say(0);
        Check.due("of 3, 2, 2", x.turn(), 1);
    }

    // Each act of cost 1 is made once here; go, rest and attack stand with their own promises.
    private static void promise23ReadyAt() {
        MudCouncil x = new MudCouncil();
        x.join(0, 20, 0);
        x.shop(0, 20);
        x.stock(0, 0, 1, 2);
        x.scatter(0, 1, 1);
        Check.due("at first", x.readyAt(0), 0);
        x.say(0);
        x.shout(0);
        x.take(1);
        x.drop(1);
        x.buy(0);
        x.sell(0);
        Check.due("behind six acts", x.readyAt(0), 6);
        x.rest();
        Check.due("behind a rest", x.readyAt(0), 8);
        Check.outOfBounds("player -1", () -> x.readyAt(-1));
        Check.outOfBounds("player 1", () -> x.readyAt(1));
        x.join(0, 0, 0);
        Check.due("of one who joins late", x.readyAt(1), 0);
    }

    private static void promises24To27OfPlayers() {
        MudCouncil x = new MudCouncil();
        x.join(3, 100, 0);
        x.join(7, 0, 6);
        x.scatter(3, 4, 1);
        x.take(4);
        Check.due("room", x.roomOf(0), 3);
        Check.due("room", x.roomOf(1), 7);
        Check.due("coins", x.coinsOf(0), 100);
        Check.due("coins", x.coinsOf(1), 0);
        Check.due("health", x.healthOf(0), 20);
        Check.due("goods", x.goodsOf(0, 4), 1);
        Check.due("goods", x.goodsOf(0, 3), 0);
        Check.due("goods", x.goodsOf(1, 4), 0);
        for (int player : new int[] {-1, 2, 4, Integer.MIN_VALUE, Integer.MAX_VALUE}) {
            Check.outOfBounds("room of " + player, () -> x.roomOf(player));
            Check.outOfBounds("coins of " + player, () -> x.coinsOf(player));
            Check.outOfBounds("health of " + player, () -> x.healthOf(player));
            Check.outOfBounds("goods of " + player, () -> x.goodsOf(player, 0));
        }
        Check.outOfBounds("kind -1", () -> x.goodsOf(0, -1));
        Check.outOfBounds("kind 5", () -> x.goodsOf(0, 5));
    }

    private static void promise28Heard() {
        MudCouncil x = new MudCouncil();
        x.join(0, 0, 0);
        x.join(0, 0, 0);
        Check.outOfBounds("nothing yet", () -> x.heard(1, 0));
        for (int word = 10; word < 17; word++) {
            x.say(word);
            x.say(word + 50);
        }
        for (int ago = 0; ago < 6; ago++) {
            Check.due("player 0 heard " + ago + " ago", x.heard(0, ago), 100 + 66 - ago);
            Check.due("player 1 heard " + ago + " ago", x.heard(1, ago), 16 - ago);
        }
        Check.outOfBounds("the seventh", () -> x.heard(0, 6));
        Check.outOfBounds("the latest but -1", () -> x.heard(0, -1));
        Check.outOfBounds("greatest", () -> x.heard(0, Integer.MAX_VALUE));
        Check.outOfBounds("player -1", () -> x.heard(-1, 0));
        Check.outOfBounds("player 2", () -> x.heard(2, 0));
        MudCouncil y = new MudCouncil();
        y.join(0, 0, 0);
        y.join(0, 0, 0);
        y.say(99);
        Check.due("the only word", y.heard(1, 0), 99);
        Check.outOfBounds("none ahead of it", () -> y.heard(1, 1));
    }

    private static void promise29StageOf() {
        MudCouncil x = new MudCouncil();
        x.join(0, 0, 0);
        Check.outOfBounds("no quest", () -> x.stageOf(0, 0));
        x.quest(0);
        x.quest(0);
        x.stage(1, MudCouncil.VISIT, 0, 0);
        x.stage(1, MudCouncil.HOLD, 0, 1);
        x.rest();
        Check.due("of the one without stages", x.stageOf(0, 0), 0);
        Check.due("of the other one", x.stageOf(0, 1), 1);
        Check.outOfBounds("player -1", () -> x.stageOf(-1, 0));
        Check.outOfBounds("player 1", () -> x.stageOf(1, 0));
        Check.outOfBounds("quest -1", () -> x.stageOf(0, -1));
        Check.outOfBounds("quest 2", () -> x.stageOf(0, 2));
    }

    private static void promise30Exit() {
        MudCouncil x = new MudCouncil();
        x.link(7, MudCouncil.WEST, 5);
        Check.due("exit", x.exit(7, MudCouncil.WEST), 5);
        Check.due("exit back", x.exit(5, MudCouncil.EAST), 7);
        Check.due("no exit", x.exit(5, MudCouncil.WEST), MudCouncil.NONE);
        Check.outOfBounds("room -1", () -> x.exit(-1, 0));
        Check.outOfBounds("room 8", () -> x.exit(8, 0));
        Check.outOfBounds("direction -1", () -> x.exit(0, -1));
        Check.outOfBounds("direction 4", () -> x.exit(0, 4));
    }

    private static void promise31Distance() {
        MudCouncil x = new MudCouncil();
        int[] way = {4, 0, 6, 2, 7, 1, 5, 3};
        for (int i = 0; i < 7; i++) {
            Check.due("not yet linked", x.distance(way[0], way[i + 1]), MudCouncil.NONE);
            x.link(way[i], MudCouncil.EAST, way[i + 1]);
        }
        for (int i = 0; i < 8; i++) {
            for (int j = 0; j < 8; j++) {
                Check.due("along a row of rooms", x.distance(way[i], way[j]), Math.abs(i - j));
            }
        }
        x.link(way[7], MudCouncil.EAST, way[0]);
        Check.due("round the ring", x.distance(way[0], way[6]), 2);
        Check.due("through the ring", x.distance(way[0], way[4]), 4);
        x.link(way[0], MudCouncil.NORTH, way[4]);
        Check.due("by the short cut", x.distance(way[1], way[5]), 3);
        Check.outOfBounds("room -1", () -> x.distance(-1, 0));
        Check.outOfBounds("room 8", () -> x.distance(8, 0));
        Check.outOfBounds("other -1", () -> x.distance(0, -1));
        Check.outOfBounds("other 8", () -> x.distance(0, 8));
    }

    private static void promises32To34OfRooms() {
        MudCouncil x = new MudCouncil();
        x.scatter(7, 4, 5);
        x.shop(6, 40);
        x.stock(6, 4, 7, 1);
        Check.due("floor", x.onFloor(7, 4), 5);
        Check.due("floor of a shop", x.onFloor(6, 4), 0);
        Check.due("stock", x.stockOf(6, 4), 7);
        Check.due("stock without a shop", x.stockOf(7, 4), 0);
        Check.due("till", x.tillOf(6), 40);
        Check.due("till without a shop", x.tillOf(7), MudCouncil.NONE);
        for (int room : new int[] {-1, 8, Integer.MIN_VALUE, Integer.MAX_VALUE}) {
            Check.outOfBounds("floor of " + room, () -> x.onFloor(room, 0));
            Check.outOfBounds("stock of " + room, () -> x.stockOf(room, 0));
            Check.outOfBounds("till of " + room, () -> x.tillOf(room));
        }
        for (int kind : new int[] {-1, 5, Integer.MIN_VALUE, Integer.MAX_VALUE}) {
            Check.outOfBounds("floor, kind " + kind, () -> x.onFloor(6, kind));
            Check.outOfBounds("stock, kind " + kind, () -> x.stockOf(6, kind));
            Check.outOfBounds("stock without a shop, kind " + kind, () -> x.stockOf(0, kind));
        }
    }

    private static void promises35To37Sums() {
        MudCouncil x = new MudCouncil();
        x.endow(5);
        x.shop(0, 70);
        x.shop(7, 0);
        x.join(0, 100, 0);
        x.join(1, 3, 0);
        x.stock(0, 0, 4, 10);
        x.stock(7, 0, 2, 10);
        x.scatter(3, 0, 8);
        x.scatter(3, 1, 1);
        Check.due("purse", x.purse(), 5);
        Check.due("all coins", x.allCoins(), 178);
        Check.due("all goods", x.allGoods(0), 14);
        x.buy(0);
        Check.due("all coins then", x.allCoins(), 178);
        Check.due("all goods then", x.allGoods(0), 14);
        Check.due("all goods of another kind", x.allGoods(1), 1);
        Check.due("all goods of none", x.allGoods(4), 0);
        Check.outOfBounds("kind -1", () -> x.allGoods(-1));
        Check.outOfBounds("kind 5", () -> x.allGoods(5));
    }

    private static void questionsAreNotKept() {
        MudCouncil x = new MudCouncil();
        x.join(0, 0, 0);
        x.turn();
        x.distance(0, 1);
        x.allCoins();
        x.roomAfter(1, 0);
        x.turnAfter(0);
        Check.due("calls", x.calls(), 1);
        Check.due("turn", x.turn(), 0);
    }
}
