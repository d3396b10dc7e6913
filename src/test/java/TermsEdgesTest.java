/** The boundary cases of the document's Terms: turns, words heard, and quests with what they give. */
final class TermsEdgesTest {
    public static void main(String[] args) {
        turnsOfOneToFourPlayers();
        turnOfEachPlayerAlone();
        turnOfTheLowestNumberAmongEqualTimes();
        turnBehindAllOthers();
        turnOfOneWhoJoinsLate();
        costOfEachAct();
        costIsTheActorsAlone();
        makingTheWorldTakesNoTime();
        wordsHeardUpToSix();
        wordsHeardBeyondSix();
        wordsOfSeveralSpeakers();
        wordsSaidAreHeardInTheRoomAlone();
        wordsShoutedAreHeardOneRoomFurther();
        wordsShoutedBetweenAllRooms();
        wordsAreKeptByTheBeaten();
        visitOfEachRoom();
        holdOfEachKind();
        holdOneTooFew();
        holdOfABeatenActor();
        sayInEachRoom();
        sayInAnotherRoomOrAnotherWord();
        saidByAnotherPlayer();
        beatEachPlayer();
        beatWithoutBeating();
        questsWithOneToFourStages();
        questsThreeAtOnce();
        questsWithoutStages();
        questsAreLookedAtBehindActsAlone();
        questsAreNotLookedAtBehindRefusedActs();
        rewardAndPurse();
        rewardIsNotPaidLater();
        rewardOfTheSecondPlayer();
        Check.finish("TermsEdgesTest");
    }

    private static MudCouncil players(int count) {
        MudCouncil x = new MudCouncil();
        Edges.each(count, player -> x.join(0, 0, 0));
        return x;
    }

    // ---- turns

    private static void turnsOfOneToFourPlayers() {
        for (int count = 1; count <= 4; count++) {
            MudCouncil x = players(count);
            for (int act = 0; act < 9; act++) {
                Check.due("turn of " + count + " players, act " + act, x.turn(), act % count);
                x.say(0);
            }
        }
    }

    private static void turnOfEachPlayerAlone() {
        Edges.each(4, least -> {
            MudCouncil x = players(4);
            Edges.each(4, player -> {
                if (player == least) {
                    x.say(0);
                } else {
                    x.rest();
                }
            });
            Check.due("the least ready time", x.turn(), least);
        });
    }

    private static void turnOfTheLowestNumberAmongEqualTimes() {
        MudCouncil x = players(4);
        x.rest();
        Check.due("of 2, 0, 0, 0", x.turn(), 1);
        x.say(0);
        Check.due("of 2, 1, 0, 0", x.turn(), 2);
        x.say(0);
        Check.due("of 2, 1, 1, 0", x.turn(), 3);
        x.rest();
        Check.due("of 2, 1, 1, 2", x.turn(), 1);
        x.say(0);
        Check.due("of 2, 2, 1, 2", x.turn(), 2);
        x.say(0);
        Check.due("of 2, 2, 2, 2", x.turn(), 0);
    }

    private static void turnBehindAllOthers() {
        MudCouncil x = players(2);
        x.attack(1);
        Check.due("of 3, 0", x.turn(), 1);
        x.rest();
        Check.due("of 3, 2", x.turn(), 1);
        x.say(0);
        Check.due("of 3, 3", x.turn(), 0);
        x.say(0);
        Check.due("of 4, 3", x.turn(), 1);
    }

    private static void turnOfOneWhoJoinsLate() {
        MudCouncil x = players(1);
        x.rest();
        x.join(0, 0, 0);
        Check.due("ready at once", x.readyAt(1), 0);
        Check.due("the late one's turn", x.turn(), 1);
        MudCouncil y = players(1);
        y.join(0, 0, 0);
        Check.due("equal times", y.turn(), 0);
    }

    private static void checkCost(String act, int due, Edges.Play play) {
        MudCouncil x = new MudCouncil();
        x.link(0, MudCouncil.NORTH, 1);
        x.shop(0, 50);
        x.stock(0, 0, 5, 2);
        x.scatter(0, 0, 5);
        x.join(0, 50, 0);
        x.join(0, 50, 0);
        x.take(0);
        x.rest();
        Check.due("ready ahead of " + act, x.readyAt(0), 1);
        play.on(x);
        Check.due("ready behind " + act, x.readyAt(0), 1 + due);
        Check.due("the other one's ready time behind " + act, x.readyAt(1), 2);
    }

    private static void costOfEachAct() {
        checkCost("go", 2, x -> x.go(MudCouncil.NORTH));
        checkCost("say", 1, x -> x.say(0));
        checkCost("shout", 1, x -> x.shout(0));
        checkCost("take", 1, x -> x.take(0));
        checkCost("drop", 1, x -> x.drop(0));
        checkCost("give", 1, x -> x.give(1, 0));
        checkCost("pay", 1, x -> x.pay(1, 1));
        checkCost("buy", 1, x -> x.buy(0));
        checkCost("sell", 1, x -> x.sell(0));
        checkCost("attack", 3, x -> x.attack(1));
        checkCost("rest", 2, x -> x.rest());
    }

    private static void costIsTheActorsAlone() {
        MudCouncil x = players(4);
        Edges.each(4, actor -> {
            x.rest();
            Edges.each(4, player -> Check.due("ready of " + player, x.readyAt(player), player <= actor ? 2 : 0));
        });
    }

    private static void makingTheWorldTakesNoTime() {
        MudCouncil x = players(2);
        x.say(0);
        x.link(0, 0, 1);
        x.shop(0, 5);
        x.stock(0, 0, 1, 1);
        x.scatter(0, 0, 1);
        x.quest(1);
        x.stage(0, MudCouncil.VISIT, 0, 0);
        x.endow(1);
        x.seed(1);
        x.join(0, 0, 0);
        Check.due("ready", x.readyAt(0), 1);
        Check.due("ready", x.readyAt(1), 0);
        Check.due("turn", x.turn(), 1);
    }

    // ---- talk

    private static void restUntilTurnOf(int player, MudCouncil x) {
        for (int i = 0; i < 50 && x.turn() != player; i++) {
            x.rest();
        }
        Check.due("turn", x.turn(), player);
    }

    // Words 1, 2 and so on, said by player 0; player 1 is silent.
    private static void wordsSaid(int count, MudCouncil x) {
        x.join(0, 0, 0);
        x.join(0, 0, 0);
        Edges.each(count, i -> {
            restUntilTurnOf(0, x);
            Check.due("hearers", x.say(i + 1), 1);
        });
    }

    private static void checkWords(int said) {
        Edges.Play world = x -> wordsSaid(said, x);
        MudCouncil x = Edges.made(world);
        int kept = Math.min(said, 6);
        Edges.each(kept, ago -> Check.due(said + " said, " + ago + " ago", x.heard(1, ago), said - ago));
        for (int ago : Edges.beyond(0, kept - 1)) {
            Edges.outOfBounds(said + " said, " + ago + " ago", world, y -> y.heard(1, ago));
        }
        Edges.outOfBounds("the speaker heard nothing", world, y -> y.heard(0, 0));
    }

    private static void wordsHeardUpToSix() {
        for (int said = 0; said <= 6; said++) {
            checkWords(said);
        }
    }

    private static void wordsHeardBeyondSix() {
        checkWords(7);
        checkWords(12);
        checkWords(13);
    }

    private static void wordsOfSeveralSpeakers() {
        MudCouncil x = players(4);
        Edges.each(8, i -> x.say(90 + i));
        int[][] due = {{397, 296, 195, 393, 292, 191}, {397, 296, 94, 393, 292, 90}, {397, 195, 94, 393, 191, 90},
            {296, 195, 94, 292, 191, 90}};
        Edges.each(4, player -> Edges.each(6, ago ->
                Check.due("player " + player + ", " + ago + " ago", x.heard(player, ago), due[player][ago])));
        x.shout(0);
        Check.due("shouted", x.heard(3, 0), 0);
        Check.due("said ahead of it", x.heard(3, 1), 296);
        Check.due("the oldest is 191 then", x.heard(3, 5), 191);
    }

    // Rooms 0, 1 and 2 stand in a row; player 0 speaks in room 0, player 1 is there, too, 2 in room 1, 3 in room 2.
    private static void row(MudCouncil x) {
        x.link(0, MudCouncil.EAST, 1);
        x.link(1, MudCouncil.EAST, 2);
        x.join(0, 0, 0);
        x.join(0, 0, 0);
        x.join(1, 0, 0);
        x.join(2, 0, 0);
    }

    private static void wordsSaidAreHeardInTheRoomAlone() {
        Edges.Play world = x -> {
            row(x);
            Check.due("said", x.say(7), 1);
        };
        Check.due("beside the speaker", Edges.made(world).heard(1, 0), 7);
        Edges.outOfBounds("the speaker", world, x -> x.heard(0, 0));
        Edges.outOfBounds("one room further", world, x -> x.heard(2, 0));
        Edges.outOfBounds("two rooms further", world, x -> x.heard(3, 0));
    }

    private static void wordsShoutedAreHeardOneRoomFurther() {
        Edges.Play world = x -> {
            row(x);
            Check.due("shouted", x.shout(7), 2);
        };
        Check.due("beside the speaker", Edges.made(world).heard(1, 0), 7);
        Check.due("one room further", Edges.made(world).heard(2, 0), 7);
        Edges.outOfBounds("the speaker", world, x -> x.heard(0, 0));
        Edges.outOfBounds("two rooms further", world, x -> x.heard(3, 0));
        Edges.each(4, direction -> {
            MudCouncil x = new MudCouncil();
            x.link(4, direction, 6);
            x.join(4, 0, 0);
            x.join(6, 0, 0);
            Check.due("by an exit", x.shout(1), 1);
            Check.due("by the exit back", x.shout(2), 1);
            Check.due("nobody says it there", x.say(3), 0);
        });
    }

    // Rooms 0 to 3 are linked with rooms 4 to 7, each in a direction of its own, and 0 with 7 besides.
    private static void wordsShoutedBetweenAllRooms() {
        Edges.each(8, room -> Edges.each(8, other -> {
            MudCouncil x = new MudCouncil();
            Edges.each(4, direction -> x.link(direction, direction, 4 + direction));
            x.link(0, MudCouncil.SOUTH, 7);
            x.join(room, 0, 0);
            x.join(other, 0, 0);
            boolean near = Math.abs(room - other) == 4 || room + other == 7 && room * other == 0;
            Check.due("said in " + room + " to " + other, x.say(1), room == other ? 1 : 0);
            x.rest();
            Check.due("shouted in " + room + " to " + other, x.shout(1), room == other || near ? 1 : 0);
        }));
    }

    private static void wordsAreKeptByTheBeaten() {
        MudCouncil x = new MudCouncil();
        x.join(7, 0, 6);
        x.join(7, 0, 0);
        x.say(12);
        x.rest();
        x.seed(6);
        Check.due("beaten", x.attack(1), 1);
        Check.due("word", x.heard(1, 0), 12);
    }

    // ---- the kinds of stages

    private static Edges.Play quest(int kind, int first, int second) {
        return x -> {
            x.quest(0);
            x.stage(0, kind, first, second);
        };
    }

    private static void visitOfEachRoom() {
        Edges.each(8, named -> Edges.each(8, room -> {
            MudCouncil x = Edges.made(quest(MudCouncil.VISIT, named, 0));
            x.join(room, 0, 0);
            x.rest();
            Check.due("in " + room + " to visit " + named, x.stageOf(0, 0), room == named ? 1 : 0);
        }));
    }

    private static void holdOfEachKind() {
        Edges.each(5, named -> Edges.each(5, kind -> {
            MudCouncil x = Edges.made(quest(MudCouncil.HOLD, named, 1));
            x.join(0, 0, 0);
            x.scatter(0, kind, 1);
            x.take(kind);
            Check.due("kind " + kind + " to hold " + named, x.stageOf(0, 0), kind == named ? 1 : 0);
        }));
    }

    private static void holdOneTooFew() {
        for (int count = 1; count <= 9; count++) {
            int most = count;
            MudCouncil x = Edges.made(quest(MudCouncil.HOLD, 2, most));
            x.join(0, 0, 0);
            x.scatter(0, 2, 9);
            Edges.each(most - 1, i -> x.take(2));
            Check.due("one less than " + most, x.stageOf(0, 0), 0);
            x.take(2);
            Check.due("as many as " + most, x.stageOf(0, 0), 1);
        }
        MudCouncil more = new MudCouncil();
        more.join(0, 0, 0);
        more.scatter(0, 2, 9);
        Edges.each(5, i -> more.take(2));
        quest(MudCouncil.HOLD, 2, 4).on(more);
        more.rest();
        Check.due("more than 4", more.stageOf(0, 0), 1);
    }

    // 121 beats an actor of strength 0 by one of strength 6; the goods have fallen when the quests are looked at.
    private static void holdOfABeatenActor() {
        MudCouncil x = new MudCouncil();
        x.join(7, 0, 0);
        x.scatter(7, 2, 1);
        x.take(2);
        x.join(7, 0, 6);
        x.rest();
        quest(MudCouncil.HOLD, 2, 1).on(x);
        x.seed(121);
        Check.due("beaten", x.attack(1), 0);
        Check.due("not held any more", x.stageOf(0, 0), 0);
    }

    private static void sayInEachRoom() {
        Edges.each(8, room -> {
            MudCouncil x = Edges.made(quest(MudCouncil.SAY, room, 31), y -> y.join(room, 0, 0));
            x.say(31);
            Check.due("said in " + room, x.stageOf(0, 0), 1);
            MudCouncil y = Edges.made(quest(MudCouncil.SAY, room, 31), z -> z.join(room, 0, 0));
            y.shout(31);
            Check.due("shouted in " + room, y.stageOf(0, 0), 1);
        });
    }

    private static void sayInAnotherRoomOrAnotherWord() {
        Edges.each(8, room -> {
            MudCouncil x = Edges.made(quest(MudCouncil.SAY, 7 - room, 31), y -> y.join(room, 0, 0));
            x.link(room, MudCouncil.EAST, 7 - room);
            x.say(31);
            x.shout(31);
            Check.due("in the next room", x.stageOf(0, 0), 0);
        });
        MudCouncil x = Edges.made(quest(MudCouncil.SAY, 0, 31), y -> y.join(0, 0, 0));
        x.say(30);
        x.say(32);
        x.shout(30);
        x.rest();
        Check.due("another word", x.stageOf(0, 0), 0);
    }

    private static void saidByAnotherPlayer() {
        MudCouncil x = Edges.made(quest(MudCouncil.SAY, 0, 31));
        x.join(0, 0, 0);
        x.join(0, 0, 0);
        x.say(31);
        x.rest();
        Check.due("who said it", x.stageOf(0, 0), 1);
        Check.due("who heard it", x.stageOf(1, 0), 0);
    }

    // 6 beats a rival of strength 0 by an actor of strength 6.
    private static void beatEachPlayer() {
        Edges.each(4, named -> Edges.each(4, beaten -> {
            int actor = beaten == 0 ? 1 : 0;
            MudCouncil x = Edges.made(quest(MudCouncil.BEAT, named, 0));
            Edges.each(4, player -> x.join(5, 0, player == actor ? 6 : 0));
            restUntilTurnOf(actor, x);
            x.seed(6);
            Check.due("beaten", x.attack(beaten), beaten);
            Edges.each(4, player -> Check.due("stages of " + player + ", " + named + " named, " + beaten + " beaten",
                    x.stageOf(player, 0), player == actor && beaten == named ? 1 : 0));
        }));
    }

    private static void beatWithoutBeating() {
        MudCouncil x = Edges.made(quest(MudCouncil.BEAT, 1, 0));
        x.join(5, 0, 6);
        x.join(5, 0, 0);
        x.seed(4);
        Check.due("one is left", x.attack(1), MudCouncil.NONE);
        Check.due("not beaten", x.stageOf(0, 0), 0);
        Edges.each(2, named -> {
            MudCouncil y = Edges.made(quest(MudCouncil.BEAT, named, 0));
            y.join(5, 0, 0);
            y.join(5, 0, 6);
            y.seed(121);
            Check.due("the actor is beaten", y.attack(1), 0);
            Check.due("stages of the actor", y.stageOf(0, 0), 0);
            Check.due("stages of the one who won", y.stageOf(1, 0), 0);
        });
    }

    // ---- stages and rewards

    private static void questsWithOneToFourStages() {
        for (int count = 1; count <= 4; count++) {
            int stages = count;
            MudCouncil x = new MudCouncil();
            x.quest(10);
            Edges.each(stages, i -> x.stage(0, MudCouncil.VISIT, 0, 0));
            x.endow(100);
            x.join(0, 0, 0);
            for (int act = 0; act <= 5; act++) {
                Check.due(stages + " stages behind " + act, x.stageOf(0, 0), Math.min(act, stages));
                Check.due(stages + " stages, coins behind " + act, x.coinsOf(0), act < stages ? 0 : 10);
                x.say(0);
            }
            Check.due("purse", x.purse(), 90);
        }
    }

    private static void questsThreeAtOnce() {
        MudCouncil x = new MudCouncil();
        Edges.each(3, quest -> {
            x.quest(10 + quest);
            Edges.each(quest + 1, stage -> x.stage(quest, MudCouncil.VISIT, 0, 0));
        });
        x.endow(100);
        x.join(0, 0, 0);
        int[] coins = {0, 10, 21, 33, 33};
        for (int act = 0; act <= 4; act++) {
            for (int quest = 0; quest < 3; quest++) {
                Check.due("quest " + quest + " behind " + act, x.stageOf(0, quest), Math.min(act, quest + 1));
            }
            Check.due("coins behind " + act, x.coinsOf(0), coins[act]);
            x.rest();
        }
    }

    private static void questsWithoutStages() {
        MudCouncil x = new MudCouncil();
        x.quest(10);
        x.endow(100);
        x.join(0, 0, 0);
        x.rest();
        Check.due("no stage", x.stageOf(0, 0), 0);
        Check.due("no reward", x.coinsOf(0), 0);
        Check.due("a first stage later", x.stage(0, MudCouncil.VISIT, 0, 0), 1);
        x.rest();
        Check.due("reached then", x.stageOf(0, 0), 1);
        Check.due("rewarded then", x.coinsOf(0), 10);
    }

    private static void questsAreLookedAtBehindActsAlone() {
        MudCouncil x = Edges.made(quest(MudCouncil.VISIT, 0, 0));
        x.join(0, 0, 0);
        x.join(0, 0, 0);
        x.link(0, 0, 1);
        x.shop(0, 1);
        x.stock(0, 0, 1, 1);
        x.scatter(0, 0, 1);
        x.quest(1);
        x.endow(1);
        x.seed(1);
        Check.due("behind making the world", x.stageOf(0, 0), 0);
        x.rest();
        Check.due("behind the own act", x.stageOf(0, 0), 1);
        Check.due("behind another one's act", x.stageOf(1, 0), 0);
    }

    private static void questsAreNotLookedAtBehindRefusedActs() {
        Edges.Play world = x -> {
            quest(MudCouncil.VISIT, 0, 0).on(x);
            x.join(0, 0, 0);
            x.join(0, 0, 0);
        };
        Edges.illegalState("go", world, x -> x.go(0));
        Edges.illegalState("take", world, x -> x.take(0));
        Edges.illegalState("pay", world, x -> x.pay(1, 1));
        Edges.illegalArgument("say", world, x -> x.say(100));
    }

    private static void checkReward(int reward, int purse, int due) {
        MudCouncil x = new MudCouncil();
        x.quest(reward);
        x.stage(0, MudCouncil.VISIT, 0, 0);
        if (purse > 0) {
            x.endow(purse);
        }
        x.join(0, 5, 0);
        x.rest();
        String what = reward + " of " + purse;
        Check.due(what + ", coins", x.coinsOf(0), 5 + due);
        Check.due(what + ", purse", x.purse(), purse - due);
        Check.due(what + ", stage", x.stageOf(0, 0), 1);
        Check.due(what + ", all coins", x.allCoins(), 5 + purse);
    }

    private static void rewardAndPurse() {
        checkReward(30, 0, 0);
        checkReward(30, 1, 1);
        checkReward(30, 29, 29);
        checkReward(30, 30, 30);
        checkReward(30, 31, 30);
        checkReward(0, 0, 0);
        checkReward(0, 5, 0);
        checkReward(100, 1000, 100);
    }

    private static void rewardIsNotPaidLater() {
        MudCouncil x = new MudCouncil();
        x.quest(30);
        x.stage(0, MudCouncil.VISIT, 0, 0);
        x.endow(4);
        x.join(0, 0, 0);
        x.rest();
        x.endow(100);
        x.rest();
        Check.due("coins", x.coinsOf(0), 4);
        Check.due("purse", x.purse(), 100);
    }

    private static void rewardOfTheSecondPlayer() {
        MudCouncil x = new MudCouncil();
        x.quest(30);
        x.stage(0, MudCouncil.VISIT, 0, 0);
        x.endow(50);
        Edges.each(4, player -> x.join(0, 0, 0));
        Edges.each(4, player -> x.rest());
        int[] due = {30, 20, 0, 0};
        Edges.each(4, player -> Check.due("coins of " + player, x.coinsOf(player), due[player]));
        Edges.each(4, player -> Check.due("stages of " + player, x.stageOf(player, 0), 1));
    }
}
