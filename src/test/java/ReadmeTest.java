/** The program that README.md shows answers what README.md says. */
final class ReadmeTest {
    public static void main(String[] args) {
        MudCouncil world = new MudCouncil();
        world.link(0, MudCouncil.EAST, 1);
        world.shop(1, 30);
        Check.due("stock", world.stock(1, 0, 5, 7), 5);
        int ann = world.join(0, 100, 3);
        int bob = world.join(1, 20, 5);
        Check.due("ann", ann, 0);
        Check.due("bob", bob, 1);
        int quest = world.quest(10);
        Check.due("quest", quest, 0);
        Check.due("stages", world.stage(quest, MudCouncil.HOLD, 0, 1), 1);
        Check.due("endow", world.endow(50), 50);

        Check.due("turn of ann", world.turn(), ann);
        Check.due("go", world.go(MudCouncil.EAST), 1);
        Check.due("turn of bob", world.turn(), bob);
        Check.due("say", world.say(42), 1);
        Check.due("heard", world.heard(ann, 0), 142);
        Check.due("rest", world.rest(), 20);
        Check.due("turn of ann again", world.turn(), ann);
        Check.due("buy", world.buy(0), 103);

        Check.due("coins", world.coinsOf(ann), 103);
        Check.due("coins before", world.coinsAfter(11, ann), 100);
        Check.due("room before", world.roomAfter(8, ann), 0);
        Check.illegalState("no second exit", () -> world.link(0, MudCouncil.EAST, 2));
        Check.illegalState("no exit", () -> world.go(MudCouncil.NORTH));
        Check.outOfBounds("no such player", () -> world.coinsOf(2));
        Check.illegalArgument("no such word", () -> world.say(100));
        Check.due("calls", world.calls(), 12);
        Check.finish("ReadmeTest");
    }
}
