import java.util.ArrayList;
import java.util.List;
import java.util.function.IntSupplier;

/**
 * What the tests of boundary cases share. A call that throws is looked at with twins: both play the same world, and one
 * of them makes the refused call, too; from then on they have to answer alike, of what is, of what was and of what
 * comes. Each look has twins of its own, because an object is used for at most 512 calls.
 */
final class Edges {
    static final int MOST_CALLS = 512;

    private Edges() {
    }

    interface Play {
        void on(MudCouncil x);
    }

    static MudCouncil made(Play... plays) {
        MudCouncil x = new MudCouncil();
        for (Play play : plays) {
            play.on(x);
        }
        return x;
    }

    static void nothing(MudCouncil x) {
    }

    static int[] beyond(int least, int greatest) {
        return new int[] {Integer.MIN_VALUE, least - 1, greatest + 1, Integer.MAX_VALUE};
    }

    // ---- calls that throw, and behind which nothing has changed

    static void outOfBounds(String what, Play world, Play call) {
        refused(what, IndexOutOfBoundsException.class, world, call);
    }

    static void illegalArgument(String what, Play world, Play call) {
        refused(what, IllegalArgumentException.class, world, call);
    }

    static void illegalState(String what, Play world, Play call) {
        refused(what, IllegalStateException.class, world, call);
    }

    private static void refused(String what, Class<?> due, Play world, Play call) {
        MudCouncil x = made(world);
        Check.due(what, Check.thrownBy(() -> call.on(x)), due);
        Play refusal = twin -> Check.thrownBy(() -> call.on(twin));
        Check.due(what + " changes nothing", difference(now(made(world, refusal)), now(made(world))), "");
        Check.due(what + " is not kept", difference(past(made(world, refusal, twin -> twin.endow(1))),
                past(made(world, twin -> twin.endow(1)))), "");
        Check.due(what + " lets all go on", difference(future(made(world, refusal)), future(made(world))), "");
    }

    private static String difference(List<String> got, List<String> due) {
        for (int i = 0; i < Math.max(got.size(), due.size()); i++) {
            String one = i < got.size() ? got.get(i) : "nothing";
            String other = i < due.size() ? due.get(i) : "nothing";
            if (!one.equals(other)) {
                return one + " for " + other;
            }
        }
        return "";
    }

    // ---- what an object answers, in a row

    static String outcome(IntSupplier call) {
        try {
            return String.valueOf(call.getAsInt());
        } catch (RuntimeException e) {
            return "throws " + e.getClass().getSimpleName();
        }
    }

    private static void tell(List<String> told, String what, IntSupplier call) {
        told.add(what + " = " + outcome(call));
    }

    static List<String> now(MudCouncil x) {
        List<String> told = new ArrayList<>();
        tell(told, "calls", x::calls);
        tell(told, "turn", x::turn);
        tell(told, "purse", x::purse);
        tell(told, "allCoins", x::allCoins);
        each(5, kind -> tell(told, "allGoods " + kind, () -> x.allGoods(kind)));
        each(8, room -> tellRoom(told, x, room));
        each(4, player -> tellPlayer(told, x, player));
        return told;
    }

    private static void tellRoom(List<String> told, MudCouncil x, int room) {
        tell(told, "till " + room, () -> x.tillOf(room));
        each(4, direction -> tell(told, "exit " + room + " " + direction, () -> x.exit(room, direction)));
        each(5, kind -> tell(told, "floor " + room + " " + kind, () -> x.onFloor(room, kind)));
        each(5, kind -> tell(told, "stock " + room + " " + kind, () -> x.stockOf(room, kind)));
    }

    private static void tellPlayer(List<String> told, MudCouncil x, int player) {
        tell(told, "ready " + player, () -> x.readyAt(player));
        tell(told, "room " + player, () -> x.roomOf(player));
        tell(told, "coins " + player, () -> x.coinsOf(player));
        tell(told, "health " + player, () -> x.healthOf(player));
        each(5, kind -> tell(told, "goods " + player + " " + kind, () -> x.goodsOf(player, kind)));
        each(6, ago -> tell(told, "heard " + player + " " + ago, () -> x.heard(player, ago)));
        each(3, quest -> tell(told, "stage " + player + " " + quest, () -> x.stageOf(player, quest)));
    }

    static List<String> past(MudCouncil x) {
        List<String> told = new ArrayList<>();
        each(x.calls() + 1, calls -> {
            tell(told, "turn after " + calls, () -> x.turnAfter(calls));
            each(4, player -> tell(told, "room after " + calls, () -> x.roomAfter(calls, player)));
            each(4, player -> tell(told, "coins after " + calls, () -> x.coinsAfter(calls, player)));
        });
        return told;
    }

    // What no question tells is seen by what follows: prices, strengths, the seed, the stages of quests.
    private static List<String> future(MudCouncil x) {
        List<String> told = new ArrayList<>();
        for (int turn = 0; turn < 3; turn++) {
            each(5, kind -> tell(told, "buy " + kind, () -> x.buy(kind)));
            each(5, kind -> tell(told, "sell " + kind, () -> x.sell(kind)));
            each(4, player -> tell(told, "attack " + player, () -> x.attack(player)));
            each(5, kind -> tell(told, "take " + kind, () -> x.take(kind)));
            tell(told, "say", () -> x.say(42));
            each(4, direction -> tell(told, "go " + direction, () -> x.go(direction)));
        }
        each(3, quest -> tell(told, "stages " + quest, () -> x.stage(quest, MudCouncil.VISIT, 0, 0)));
        tell(told, "players", () -> x.join(0, 0, 0));
        tell(told, "quests", () -> x.quest(0));
        told.addAll(now(x));
        return told;
    }

    interface Numbered {
        void on(int number);
    }

    static void each(int count, Numbered numbered) {
        for (int i = 0; i < count; i++) {
            numbered.on(i);
        }
    }

    // ---- worlds that several tests begin with

    /** Player 0 acts in room 0, beside player 1; player 2 is in room 7. There are goods, a shop and two quests. */
    static void busy(MudCouncil x) {
        x.link(0, MudCouncil.EAST, 1);
        x.link(0, MudCouncil.NORTH, 7);
        x.shop(0, 30);
        x.shop(7, 0);
        x.stock(0, 0, 5, 7);
        x.stock(0, 4, 0, 50);
        x.scatter(0, 4, 2);
        x.scatter(7, 2, 9);
        x.join(0, 100, 3);
        x.join(0, 50, 1);
        x.join(7, 200, 6);
        x.quest(10);
        x.stage(0, MudCouncil.VISIT, 1, 0);
        x.stage(0, MudCouncil.HOLD, 4, 2);
        x.quest(20);
        x.stage(1, MudCouncil.SAY, 0, 42);
        x.endow(25);
        x.seed(4711);
        x.take(4);
        x.say(42);
        x.rest();
    }
}
