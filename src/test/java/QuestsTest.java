/** The quests of the document's Terms, as promises 8 and 29 and the acts show them. */
final class QuestsTest {
    public static void main(String[] args) {
        visit();
        hold();
        say();
        beat();
        beatIsByTheActor();
        visitOfABeatenActor();
        oneStageForEachAct();
        rewards();
        rewardsByRisingNumber();
        onlyTheActor();
        Check.finish("QuestsTest");
    }

    private static void visit() {
        MudCouncil x = new MudCouncil();
        x.link(1, MudCouncil.EAST, 2);
        x.quest(0);
        x.stage(0, MudCouncil.VISIT, 2, 0);
        x.stage(0, MudCouncil.VISIT, 1, 0);
        x.join(1, 0, 0);
        x.rest();
        Check.due("not there", x.stageOf(0, 0), 0);
        x.go(MudCouncil.EAST);
        Check.due("there", x.stageOf(0, 0), 1);
        x.rest();
        Check.due("not at the next", x.stageOf(0, 0), 1);
        x.go(MudCouncil.WEST);
        Check.due("at the next", x.stageOf(0, 0), 2);
        x.rest();
        Check.due("no stage is left", x.stageOf(0, 0), 2);
    }

    private static void hold() {
        MudCouncil x = new MudCouncil();
        x.quest(0);
        x.stage(0, MudCouncil.HOLD, 3, 2);
        x.stage(0, MudCouncil.HOLD, 3, 1);
        x.join(1, 0, 0);
        x.scatter(1, 3, 9);
        x.scatter(1, 2, 9);
        x.take(3);
        x.take(2);
        Check.due("one of two", x.stageOf(0, 0), 0);
        x.take(3);
        Check.due("two of two", x.stageOf(0, 0), 1);
        x.drop(3);
        Check.due("one of one", x.stageOf(0, 0), 2);
    }

    private static void say() {
        MudCouncil x = new MudCouncil();
        x.link(1, MudCouncil.EAST, 2);
        x.quest(0);
        x.stage(0, MudCouncil.SAY, 2, 0);
        x.stage(0, MudCouncil.SAY, 2, 99);
        x.join(1, 0, 0);
        x.say(0);
        Check.due("in another room", x.stageOf(0, 0), 0);
        x.go(MudCouncil.EAST);
        Check.due("not said", x.stageOf(0, 0), 0);
        x.say(1);
        Check.due("another word", x.stageOf(0, 0), 0);
        x.say(0);
        Check.due("said", x.stageOf(0, 0), 1);
        x.shout(99);
        Check.due("shouted", x.stageOf(0, 0), 2);
    }

    private static void beat() {
        MudCouncil x = new MudCouncil();
        x.quest(0);
        x.quest(0);
        x.stage(0, MudCouncil.BEAT, 1, 0);
        x.stage(1, MudCouncil.BEAT, 0, 0);
        x.join(4, 0, 6);
        x.join(4, 0, 0);
        x.seed(4);
        Check.due("nobody beaten", x.attack(1), MudCouncil.NONE);
        Check.due("not reached", x.stageOf(0, 0), 0);
        x.rest();
        x.rest();
        x.seed(6);
        Check.due("beaten", x.attack(1), 1);
        Check.due("reached", x.stageOf(0, 0), 1);
        Check.due("another player named", x.stageOf(0, 1), 0);
    }

    // Behind the seed 1 an actor of strength 0 is beaten by a rival of strength 6.
    private static void beatIsByTheActor() {
        MudCouncil x = new MudCouncil();
        x.quest(0);
        x.quest(0);
        x.stage(0, MudCouncil.BEAT, 0, 0);
        x.stage(1, MudCouncil.BEAT, 1, 0);
        x.join(4, 0, 0);
        x.join(4, 0, 6);
        Check.due("the actor is beaten", x.attack(1), 0);
        for (int player = 0; player < 2; player++) {
            for (int quest = 0; quest < 2; quest++) {
                Check.due("not by the actor", x.stageOf(player, quest), 0);
            }
        }
    }

    private static void visitOfABeatenActor() {
        MudCouncil x = new MudCouncil();
        x.quest(7);
        x.stage(0, MudCouncil.VISIT, 0, 0);
        x.endow(7);
        x.join(4, 9, 0);
        x.join(4, 0, 6);
        Check.due("the actor is beaten", x.attack(1), 0);
        Check.due("it is in room 0 then", x.stageOf(0, 0), 1);
        Check.due("and has the reward whole", x.coinsOf(0), 5 + 7);
    }

    private static void oneStageForEachAct() {
        MudCouncil x = new MudCouncil();
        for (int quest = 0; quest < 2; quest++) {
            x.quest(3);
            x.stage(quest, MudCouncil.VISIT, 0, 0);
            x.stage(quest, MudCouncil.VISIT, 0, 0);
        }
        x.endow(100);
        x.join(0, 0, 0);
        x.rest();
        Check.due("one of quest 0", x.stageOf(0, 0), 1);
        Check.due("one of quest 1", x.stageOf(0, 1), 1);
        Check.due("no reward yet", x.coinsOf(0), 0);
        x.rest();
        Check.due("two of quest 0", x.stageOf(0, 0), 2);
        Check.due("two of quest 1", x.stageOf(0, 1), 2);
        Check.due("both rewards", x.coinsOf(0), 6);
        Check.due("purse", x.purse(), 94);
        x.rest();
        Check.due("no reward again", x.coinsOf(0), 6);
    }

    private static void rewards() {
        MudCouncil x = new MudCouncil();
        x.quest(30);
        x.stage(0, MudCouncil.VISIT, 0, 0);
        x.join(0, 0, 0);
        x.join(0, 0, 0);
        x.join(0, 0, 0);
        x.endow(40);
        x.rest();
        Check.due("whole", x.coinsOf(0), 30);
        x.rest();
        Check.due("what is left", x.coinsOf(1), 10);
        x.rest();
        Check.due("nothing is left", x.coinsOf(2), 0);
        Check.due("reached all the same", x.stageOf(2, 0), 1);
        Check.due("purse", x.purse(), 0);
        Check.due("all coins", x.allCoins(), 40);
    }

    // The quest of the lower number empties the purse, so that the other one's stage is reached for less.
    private static void rewardsByRisingNumber() {
        MudCouncil x = new MudCouncil();
        x.quest(20);
        x.quest(100);
        x.stage(0, MudCouncil.VISIT, 0, 0);
        x.stage(1, MudCouncil.VISIT, 0, 0);
        x.endow(50);
        x.join(0, 0, 0);
        x.rest();
        Check.due("20 and the 30 that were left", x.coinsOf(0), 50);
        Check.due("purse", x.purse(), 0);
    }

    private static void onlyTheActor() {
        MudCouncil x = new MudCouncil();
        x.quest(0);
        x.stage(0, MudCouncil.HOLD, 0, 1);
        x.join(0, 0, 0);
        x.join(0, 0, 0);
        x.scatter(0, 0, 1);
        x.say(1);
        x.say(2);
        x.take(0);
        Check.due("the actor", x.stageOf(0, 0), 1);
        x.rest();
        x.give(1, 0);
        Check.due("one who was given something", x.stageOf(1, 0), 0);
        x.rest();
        x.rest();
        Check.due("who acts then", x.stageOf(1, 0), 1);
    }
}
