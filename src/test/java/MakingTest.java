/** Promises 1 to 10: a new object, and the calls that make the world. */
final class MakingTest {
    public static void main(String[] args) {
        promise1NewObject();
        promise1ObjectsAreApart();
        promise2Link();
        promise2LinkRefuses();
        promise3Shop();
        promise4Stock();
        promise5Scatter();
        promise6Join();
        promise7Quest();
        promise8Stage();
        promise8StageRefuses();
        promise8StageOfBegunQuest();
        promise9Endow();
        promise10Seed();
        Check.finish("MakingTest");
    }

    private static void promise1NewObject() {
        MudCouncil x = new MudCouncil();
        for (int room = 0; room < 8; room++) {
            for (int direction = 0; direction < 4; direction++) {
                Check.due("new exit", x.exit(room, direction), MudCouncil.NONE);
            }
            for (int kind = 0; kind < 5; kind++) {
                Check.due("new floor", x.onFloor(room, kind), 0);
                Check.due("new stock", x.stockOf(room, kind), 0);
            }
            Check.due("new till", x.tillOf(room), MudCouncil.NONE);
        }
        Check.due("new turn", x.turn(), MudCouncil.NONE);
        Check.due("new purse", x.purse(), 0);
        Check.due("new coins", x.allCoins(), 0);
        Check.due("new goods", x.allGoods(0), 0);
        Check.due("new calls", x.calls(), 0);
        Check.outOfBounds("new player", () -> x.roomOf(0));
        Check.outOfBounds("new quest", () -> x.stage(0, MudCouncil.VISIT, 0, 0));
    }

    private static void promise1ObjectsAreApart() {
        MudCouncil x = new MudCouncil();
        MudCouncil y = new MudCouncil();
        x.join(0, 5, 0);
        x.scatter(0, 0, 1);
        x.link(0, 0, 1);
        Check.due("another object's players", y.turn(), MudCouncil.NONE);
        Check.due("another object's floor", y.onFloor(0, 0), 0);
        Check.due("another object's exit", y.exit(0, 0), MudCouncil.NONE);
        Check.due("another object's calls", y.calls(), 0);
    }

    private static void promise2Link() {
        for (int direction = 0; direction < 4; direction++) {
            MudCouncil x = new MudCouncil();
            x.link(0, direction, 7);
            for (int other = 0; other < 4; other++) {
                Check.due("exit", x.exit(0, other), other == direction ? 7 : MudCouncil.NONE);
                Check.due("exit back", x.exit(7, other), other == (direction + 2) % 4 ? 0 : MudCouncil.NONE);
            }
            Check.due("calls", x.calls(), 1);
        }
    }

    private static void promise2LinkRefuses() {
        MudCouncil x = new MudCouncil();
        x.link(0, MudCouncil.EAST, 1);
        Check.outOfBounds("room -1", () -> x.link(-1, 0, 1));
        Check.outOfBounds("room 8", () -> x.link(8, 0, 1));
        Check.outOfBounds("direction -1", () -> x.link(2, -1, 3));
        Check.outOfBounds("direction 4", () -> x.link(2, 4, 3));
        Check.outOfBounds("other -1", () -> x.link(2, 0, -1));
        Check.outOfBounds("other 8", () -> x.link(2, 0, 8));
        Check.outOfBounds("least direction of a room to itself", () -> x.link(2, Integer.MIN_VALUE, 2));
        Check.outOfBounds("greatest room", () -> x.link(Integer.MAX_VALUE, 0, Integer.MAX_VALUE));
        Check.illegalArgument("a room to itself", () -> x.link(2, 0, 2));
        Check.illegalArgument("a room with that exit to itself", () -> x.link(0, MudCouncil.EAST, 0));
        Check.illegalState("the exit is there", () -> x.link(0, MudCouncil.EAST, 2));
        Check.illegalState("the exit back is there", () -> x.link(2, MudCouncil.EAST, 1));
        Check.illegalState("both are there", () -> x.link(1, MudCouncil.WEST, 0));
        Check.due("calls", x.calls(), 1);
        Check.due("no exit made", x.exit(2, MudCouncil.EAST), MudCouncil.NONE);
        x.link(0, MudCouncil.WEST, 1);
        Check.due("a second way to the same room", x.exit(1, MudCouncil.EAST), 0);
    }

    private static void promise3Shop() {
        MudCouncil x = new MudCouncil();
        x.shop(0, 0);
        x.shop(7, 1000);
        Check.due("empty till", x.tillOf(0), 0);
        Check.due("full till", x.tillOf(7), 1000);
        Check.due("no shop beside it", x.tillOf(6), MudCouncil.NONE);
        Check.due("its stock", x.stockOf(7, 0), 0);
        Check.outOfBounds("room -1", () -> x.shop(-1, 0));
        Check.outOfBounds("room 8, coins too", () -> x.shop(8, -1));
        Check.illegalArgument("coins -1", () -> x.shop(1, -1));
        Check.illegalArgument("coins 1001 where a shop is", () -> x.shop(0, 1001));
        Check.illegalState("a shop is there", () -> x.shop(0, 5));
        Check.due("its till then", x.tillOf(0), 0);
        Check.due("calls", x.calls(), 2);
    }

    private static void promise4Stock() {
        MudCouncil x = new MudCouncil();
        x.shop(3, 10);
        Check.due("stock", x.stock(3, 4, 20, 50), 20);
        Check.due("stock more", x.stock(3, 4, 20, 1), 40);
        Check.due("stock none", x.stock(3, 4, 0, 0), 40);
        Check.due("stock of another kind", x.stock(3, 0, 1, 3), 1);
        Check.due("stockOf", x.stockOf(3, 4), 40);
        Check.due("stockOf the other kind", x.stockOf(3, 0), 1);
        Check.outOfBounds("room 8", () -> x.stock(8, 0, 21, 0));
        Check.outOfBounds("room -1", () -> x.stock(-1, 0, 0, 0));
        Check.outOfBounds("kind 5", () -> x.stock(3, 5, 0, 51));
        Check.outOfBounds("kind -1 without a shop", () -> x.stock(0, -1, 0, 0));
        Check.illegalArgument("count -1", () -> x.stock(3, 0, -1, 0));
        Check.illegalArgument("count 21 without a shop", () -> x.stock(0, 0, 21, 0));
        Check.illegalArgument("price -1", () -> x.stock(3, 0, 0, -1));
        Check.illegalArgument("price 51", () -> x.stock(3, 0, 0, 51));
        Check.illegalState("no shop", () -> x.stock(0, 0, 0, 0));
        Check.due("stock then", x.stockOf(3, 0), 1);
        Check.due("calls", x.calls(), 5);
        x.join(3, 3, 0);
        Check.due("the price that was set", x.buy(0), 0);
    }

    private static void promise5Scatter() {
        MudCouncil x = new MudCouncil();
        Check.due("scatter", x.scatter(7, 4, 9), 9);
        Check.due("scatter more", x.scatter(7, 4, 1), 10);
        Check.due("scatter another kind", x.scatter(7, 3, 2), 2);
        Check.due("floor", x.onFloor(7, 4), 10);
        Check.due("another floor", x.onFloor(6, 4), 0);
        Check.outOfBounds("room -1", () -> x.scatter(-1, 0, 1));
        Check.outOfBounds("room 8, count too", () -> x.scatter(8, 0, 0));
        Check.outOfBounds("kind -1", () -> x.scatter(0, -1, 1));
        Check.outOfBounds("kind 5, count too", () -> x.scatter(0, 5, 10));
        Check.illegalArgument("count 0", () -> x.scatter(0, 0, 0));
        Check.illegalArgument("count 10", () -> x.scatter(0, 0, 10));
        Check.due("floor then", x.onFloor(0, 0), 0);
        Check.due("calls", x.calls(), 3);
    }

    private static void promise6Join() {
        MudCouncil x = new MudCouncil();
        Check.due("join", x.join(0, 0, 0), 0);
        Check.outOfBounds("room -1", () -> x.join(-1, 0, 0));
        Check.outOfBounds("room 8, coins too", () -> x.join(8, 201, 0));
        Check.illegalArgument("coins -1", () -> x.join(0, -1, 0));
        Check.illegalArgument("coins 201", () -> x.join(0, 201, 0));
        Check.illegalArgument("strength -1", () -> x.join(0, 0, -1));
        Check.illegalArgument("strength 7", () -> x.join(0, 0, 7));
        Check.outOfBounds("nobody joined", () -> x.roomOf(1));
        Check.due("join", x.join(7, 200, 6), 1);
        Check.due("room", x.roomOf(1), 7);
        Check.due("coins", x.coinsOf(1), 200);
        Check.due("health", x.healthOf(1), 20);
        Check.due("ready time", x.readyAt(1), 0);
        Check.due("goods", x.goodsOf(1, 4), 0);
        Check.outOfBounds("words", () -> x.heard(1, 0));
        Check.due("join", x.join(1, 1, 1), 2);
        Check.due("join", x.join(2, 2, 2), 3);
        Check.outOfBounds("a fifth in no room", () -> x.join(8, 0, 0));
        Check.illegalArgument("a fifth with too many coins", () -> x.join(0, 201, 0));
        Check.illegalState("a fifth", () -> x.join(0, 0, 0));
        Check.due("calls", x.calls(), 4);
    }

    private static void promise7Quest() {
        MudCouncil x = new MudCouncil();
        x.join(0, 0, 0);
        Check.due("quest", x.quest(0), 0);
        Check.due("quest", x.quest(100), 1);
        Check.illegalArgument("reward -1", () -> x.quest(-1));
        Check.illegalArgument("reward 101", () -> x.quest(101));
        Check.outOfBounds("no third one", () -> x.stageOf(0, 2));
        Check.due("quest", x.quest(5), 2);
        Check.due("reached", x.stageOf(0, 2), 0);
        Check.illegalState("a fourth", () -> x.quest(5));
        Check.illegalArgument("a fourth with reward 101", () -> x.quest(101));
        Check.due("calls", x.calls(), 4);
        x.endow(10);
        x.rest();
        Check.due("quests without stages give nothing", x.coinsOf(0), 0);
    }

    private static void promise8Stage() {
        MudCouncil x = new MudCouncil();
        x.quest(1);
        x.quest(1);
        Check.due("visit", x.stage(0, MudCouncil.VISIT, 7, Integer.MIN_VALUE), 1);
        Check.due("hold", x.stage(0, MudCouncil.HOLD, 4, 9), 2);
        Check.due("say", x.stage(0, MudCouncil.SAY, 7, 99), 3);
        Check.due("beat", x.stage(0, MudCouncil.BEAT, 3, Integer.MAX_VALUE), 4);
        Check.illegalState("a fifth", () -> x.stage(0, MudCouncil.VISIT, 0, 0));
        Check.due("another quest", x.stage(1, MudCouncil.HOLD, 0, 1), 1);
        Check.due("another quest's second", x.stage(1, MudCouncil.SAY, 0, 0), 2);
        Check.due("calls", x.calls(), 8);
    }

    private static void promise8StageRefuses() {
        MudCouncil x = new MudCouncil();
        Check.outOfBounds("no quest yet", () -> x.stage(0, MudCouncil.VISIT, 0, 0));
        x.quest(1);
        Check.outOfBounds("quest -1", () -> x.stage(-1, MudCouncil.VISIT, 0, 0));
        Check.outOfBounds("quest 1", () -> x.stage(1, MudCouncil.VISIT, 0, 0));
        Check.outOfBounds("quest 1, kind too", () -> x.stage(1, 9, 0, 0));
        Check.outOfBounds("visit -1", () -> x.stage(0, MudCouncil.VISIT, -1, 0));
        Check.outOfBounds("visit 8", () -> x.stage(0, MudCouncil.VISIT, 8, 0));
        Check.outOfBounds("hold -1", () -> x.stage(0, MudCouncil.HOLD, -1, 1));
        Check.outOfBounds("hold 5, second too", () -> x.stage(0, MudCouncil.HOLD, 5, 0));
        Check.outOfBounds("say -1", () -> x.stage(0, MudCouncil.SAY, -1, 0));
        Check.outOfBounds("say 8, second too", () -> x.stage(0, MudCouncil.SAY, 8, 100));
        Check.outOfBounds("beat -1", () -> x.stage(0, MudCouncil.BEAT, -1, 0));
        Check.outOfBounds("beat 4", () -> x.stage(0, MudCouncil.BEAT, 4, 0));
        Check.illegalArgument("kind -1", () -> x.stage(0, -1, 0, 0));
        Check.illegalArgument("kind 4", () -> x.stage(0, 4, 0, 0));
        Check.illegalArgument("hold 0 goods", () -> x.stage(0, MudCouncil.HOLD, 0, 0));
        Check.illegalArgument("hold 10 goods", () -> x.stage(0, MudCouncil.HOLD, 0, 10));
        Check.illegalArgument("word -1", () -> x.stage(0, MudCouncil.SAY, 0, -1));
        Check.illegalArgument("word 100", () -> x.stage(0, MudCouncil.SAY, 0, 100));
        Check.due("calls", x.calls(), 1);
        Check.due("first stage", x.stage(0, MudCouncil.VISIT, 0, 0), 1);
    }

    private static void promise8StageOfBegunQuest() {
        MudCouncil x = new MudCouncil();
        x.quest(1);
        x.quest(1);
        x.stage(0, MudCouncil.VISIT, 0, 0);
        x.stage(1, MudCouncil.VISIT, 5, 0);
        x.join(0, 0, 0);
        x.join(1, 0, 0);
        Check.due("nobody has acted", x.stage(0, MudCouncil.VISIT, 1, 0), 2);
        x.rest();
        Check.illegalState("begun by player 0", () -> x.stage(0, MudCouncil.VISIT, 1, 0));
        Check.illegalArgument("begun, kind out of range", () -> x.stage(0, 4, 0, 0));
        Check.outOfBounds("begun, no such room", () -> x.stage(0, MudCouncil.VISIT, 8, 0));
        Check.due("the other quest", x.stage(1, MudCouncil.VISIT, 1, 0), 2);
        x.stage(1, MudCouncil.HOLD, 0, 1);
        Check.due("calls", x.calls(), 10);
    }

    private static void promise9Endow() {
        MudCouncil x = new MudCouncil();
        Check.due("endow", x.endow(1), 1);
        Check.due("endow", x.endow(1000), 1001);
        Check.illegalArgument("coins 0", () -> x.endow(0));
        Check.illegalArgument("coins 1001", () -> x.endow(1001));
        Check.illegalArgument("coins -1", () -> x.endow(-1));
        Check.due("purse", x.purse(), 1001);
        Check.due("calls", x.calls(), 2);
    }

    // The die shows 2, 5, 6, 3, 6, 3 behind the seed 0, and 6, 1, 4, 1 behind 6.
    private static void promise10Seed() {
        MudCouncil x = new MudCouncil();
        x.join(0, 0, 6);
        x.join(0, 0, 0);
        x.seed(65535);
        x.seed(6);
        Check.illegalArgument("seed -1", () -> x.seed(-1));
        Check.illegalArgument("seed 65536", () -> x.seed(65536));
        Check.due("calls", x.calls(), 4);
        Check.due("beaten in the second round", x.attack(1), 1);
        MudCouncil y = new MudCouncil();
        y.join(0, 0, 6);
        y.join(0, 0, 1);
        y.seed(0);
        Check.due("nobody beaten", y.attack(1), MudCouncil.NONE);
        Check.due("health", y.healthOf(1), 20 - 2 - 8 - 8);
    }
}
