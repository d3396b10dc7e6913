/**
 * The boundary cases of fights, promise 20: a health of one, of none and of less in each round, halves of odd coins,
 * ready times around the time of the act plus 10. The dice that a seed gives stand above the tests.
 */
final class FightEdgesTest {
    public static void main(String[] args) {
        threeRoundsAndNoMore();
        equalSums();
        seedsRoundTheEnd();
        rivalAtZeroInRoundTwo();
        rivalBelowZeroInRoundTwo();
        rivalAtZeroInRoundThree();
        rivalBelowZeroInRoundThree();
        rivalWithOneLeftAndThenBeatenInRoundOne();
        rivalAtZeroInRoundOne();
        actorAtZeroInRoundTwo();
        actorAtZeroInRoundThree();
        actorBelowZeroInRoundThree();
        actorWithOneLeftAndThenBeatenInRoundOne();
        halfOfTheCoinsOfARival();
        halfOfTheCoinsOfAnActor();
        allGoodsFallInTheRoom();
        allGoodsFallInRoomZero();
        allGoodsOfAnActorFall();
        noGoodsFall();
        thereIsNobodyToAttackThen();
        readyTimeOfABeatenRival();
        readyTimeOfABeatenRivalBehindALaterAct();
        readyTimeOfABeatenActor();
        Check.finish("FightEdgesTest");
    }

    // Player 2 is there to fight next, so that it is seen how far the die has gone.
    private static MudCouncil ring(int room, int actorStrength, int rivalStrength, int seed) {
        MudCouncil x = new MudCouncil();
        x.join(room, 0, actorStrength);
        x.join(room, 0, rivalStrength);
        x.join(room, 0, 3);
        x.seed(seed);
        return x;
    }

    private static void healths(String what, MudCouncil x, int... due) {
        Edges.each(due.length, player -> Check.due(what + ", health of " + player, x.healthOf(player), due[player]));
    }

    // 4: 4, 1, then 2, 5, then 2, 1; and 2, 3, then 2, 1, then 4, 5.
    private static void threeRoundsAndNoMore() {
        MudCouncil x = ring(4, 0, 0, 4);
        Check.due("nobody", x.attack(1), MudCouncil.NONE);
        healths("three rounds", x, 17, 16, 20);
        Check.due("nobody again", x.attack(0), MudCouncil.NONE);
        healths("three rounds more", x, 16, 14, 20);
    }

    // 5: 3, 4 three times.
    private static void equalSums() {
        MudCouncil x = ring(4, 1, 0, 5);
        Check.due("nobody", x.attack(1), MudCouncil.NONE);
        healths("equal sums", x, 20, 20, 20);
    }

    // 3915: the seed becomes 0 and the die shows 1, 2, then 5, 6, then 3, 6.
    // 33870: the seed becomes 65535 and the die shows 4, 3, then 2, 5, then 4, 5.
    private static void seedsRoundTheEnd() {
        MudCouncil x = ring(4, 0, 0, 3915);
        x.attack(1);
        healths("the seed becomes 0", x, 20 - 1 - 1 - 3, 20);
        MudCouncil y = ring(4, 0, 0, 33870);
        y.attack(1);
        healths("the seed becomes 65535", y, 20 - 3 - 1, 20 - 1);
    }

    // 6: 6, 1, then 4, 1; and 4, 3, then 2, 3, then 4, 3.
    private static void rivalAtZeroInRoundTwo() {
        MudCouncil x = ring(4, 6, 0, 6);
        Check.due("beaten by 11 and 9", x.attack(1), 1);
        healths("beaten", x, 20, 10, 20);
        Check.due("turn", x.turn(), 2);
        x.attack(0);
        healths("the die behind two rounds", x, 20, 10, 20 - 2 - 4 - 2);
    }

    // 54: 6, 1, then 6, 1; and 6, 3, then 2, 3, then 2, 5.
    private static void rivalBelowZeroInRoundTwo() {
        MudCouncil x = ring(4, 6, 0, 54);
        Check.due("beaten by 11 and 11", x.attack(1), 1);
        healths("beaten", x, 20, 10, 20);
        x.attack(0);
        healths("the die behind two rounds", x, 20, 10, 20 - 4 - 6);
    }

    // 9: 5, 6, then 5, 2, then 5, 2; and 5, 4, then 1, 6, then 3, 6.
    private static void rivalAtZeroInRoundThree() {
        MudCouncil x = ring(4, 5, 0, 9);
        Check.due("beaten by 4, 8 and 8", x.attack(1), 1);
        healths("beaten", x, 20, 10, 20);
        x.attack(0);
        healths("the die behind three rounds", x, 20, 10, 20 - 1 - 7 - 5);
    }

    // 26: 4, 3, then 6, 1, then 6, 1; and 2, 1, then 6, 1, then 2, 3.
    private static void rivalBelowZeroInRoundThree() {
        MudCouncil x = ring(4, 6, 0, 26);
        Check.due("beaten by 7, 11 and 11", x.attack(1), 1);
        healths("beaten", x, 20, 10, 20);
        x.attack(0);
        healths("the die behind three rounds", x, 20 - 2, 10, 20 - 2 - 4);
    }

    private static void sayUntilTurnOf(int player, MudCouncil x) {
        for (int i = 0; i < 50 && x.turn() != player; i++) {
            x.say(0);
        }
        Check.due("turn", x.turn(), player);
    }

    // 4: 4, 1, then 2, 5, then 2, 1; and 2, 3; and 2, 1, then 4, 5, then 2, 5.
    private static void rivalWithOneLeftAndThenBeatenInRoundOne() {
        MudCouncil x = ring(4, 6, 0, 4);
        Check.due("9, 3 and 7 are not enough", x.attack(1), MudCouncil.NONE);
        healths("one is left", x, 20, 1, 20);
        Check.due("not moved", x.roomOf(1), 4);
        Check.due("not delayed", x.readyAt(1), 0);
        sayUntilTurnOf(0, x);
        Check.due("beaten by 5", x.attack(1), 1);
        healths("beaten", x, 20, 10, 20);
        sayUntilTurnOf(2, x);
        x.attack(0);
        healths("the die behind one round", x, 20, 10, 20 - 2 - 4 - 6);
    }

    // 6: 6, 1, then 4, 1, then 4, 3; the second time 6, 1; and 4, 1, then 4, 3, then 2, 3.
    private static void rivalAtZeroInRoundOne() {
        MudCouncil x = ring(0, 5, 0, 6);
        Check.due("beaten by 10, 8 and 6", x.attack(1), 1);
        sayUntilTurnOf(0, x);
        x.seed(6);
        Check.due("beaten by 10", x.attack(1), 1);
        healths("beaten", x, 20, 10, 20);
        sayUntilTurnOf(2, x);
        x.attack(0);
        healths("the die behind one round", x, 20 - 1, 10, 20 - 1 - 3);
    }

    // 121: 1, 6, then 3, 6; and 5, 4, then 5, 6, then 1, 4.
    private static void actorAtZeroInRoundTwo() {
        MudCouncil x = ring(4, 0, 6, 121);
        Check.due("beaten by 11 and 9", x.attack(1), 0);
        healths("beaten", x, 10, 20, 20);
        x.attack(2);
        healths("the die behind two rounds", x, 10, 20, 20 - 4 - 2);
    }

    // 7: 3, 6, then 5, 6, then 5, 6; and 1, 6, then 5, 4, then 1, 4.
    private static void actorAtZeroInRoundThree() {
        MudCouncil x = ring(4, 0, 5, 7);
        Check.due("beaten by 8, 6 and 6", x.attack(1), 0);
        healths("beaten", x, 10, 20, 20);
        x.attack(2);
        healths("the die behind three rounds", x, 10, 20 - 3 - 1, 20 - 3);
    }

    // 21: 3, 4, then 1, 6, then 1, 6; and 5, 6, then 1, 6, then 5, 2.
    private static void actorBelowZeroInRoundThree() {
        MudCouncil x = ring(4, 0, 6, 21);
        Check.due("beaten by 7, 11 and 11", x.attack(1), 0);
        healths("beaten", x, 10, 20, 20);
        x.attack(2);
        healths("the die behind three rounds", x, 10, 20 - 2, 20 - 2 - 6);
    }

    // 2: 2, 1, then 2, 5, then 6, 5; and 4, 5; and 6, 5, then 4, 3, then 2, 1.
    private static void actorWithOneLeftAndThenBeatenInRoundOne() {
        MudCouncil x = ring(4, 0, 6, 2);
        Check.due("5, 9 and 5 are not enough", x.attack(1), MudCouncil.NONE);
        healths("one is left", x, 1, 20, 20);
        Check.due("the cost", x.readyAt(0), 3);
        sayUntilTurnOf(0, x);
        Check.due("beaten by 7", x.attack(1), 0);
        Check.due("the time of the act and 10", x.readyAt(0), 13);
        healths("beaten", x, 10, 20, 20);
        sayUntilTurnOf(1, x);
        x.attack(2);
        healths("the die behind one round", x, 10, 20, 20 - 4 - 4 - 4);
    }

    // ---- what a beaten player loses

    // 6: 6, 1, then 4, 1, which beats a rival of strength 0.
    private static void halfOfTheCoinsOfARival() {
        int[] coins = {0, 1, 2, 3, 199, 200};
        int[] lost = {0, 0, 1, 1, 99, 100};
        Edges.each(6, i -> {
            MudCouncil x = new MudCouncil();
            x.join(4, 7, 6);
            x.join(4, coins[i], 0);
            x.seed(6);
            Check.due("beaten", x.attack(1), 1);
            Check.due("left of " + coins[i], x.coinsOf(1), coins[i] - lost[i]);
            Check.due("won of " + coins[i], x.coinsOf(0), 7 + lost[i]);
        });
    }

    // 121: 1, 6, then 3, 6, which beats an actor of strength 0.
    private static void halfOfTheCoinsOfAnActor() {
        int[] coins = {0, 1, 2, 3, 199, 200};
        int[] lost = {0, 0, 1, 1, 99, 100};
        Edges.each(6, i -> {
            MudCouncil x = new MudCouncil();
            x.join(4, coins[i], 0);
            x.join(4, 7, 6);
            x.seed(121);
            Check.due("beaten", x.attack(1), 0);
            Check.due("left of " + coins[i], x.coinsOf(0), coins[i] - lost[i]);
            Check.due("won of " + coins[i], x.coinsOf(1), 7 + lost[i]);
        });
    }

    // Player 0 has three of the first kind, none of the second, one of the third, none of the fourth, two of the last.
    private static MudCouncil laden(int room) {
        MudCouncil x = new MudCouncil();
        int[] taken = {3, 0, 1, 0, 2};
        x.join(room, 0, 0);
        Edges.each(5, kind -> {
            x.scatter(room, kind, 4);
            Edges.each(taken[kind], i -> x.take(kind));
        });
        return x;
    }

    private static void checkFallen(MudCouncil x, int room) {
        Edges.each(5, kind -> Check.due("goods " + kind, x.goodsOf(0, kind), 0));
        Edges.each(8, other -> Edges.each(5, kind ->
                Check.due("floor " + other + " " + kind, x.onFloor(other, kind), other == room ? 4 : 0)));
        Check.due("room", x.roomOf(0), 0);
        Check.due("health", x.healthOf(0), 10);
    }

    private static void allGoodsFallInTheRoom() {
        MudCouncil x = laden(7);
        x.join(7, 0, 6);
        x.seed(6);
        Check.due("beaten", x.attack(0), 0);
        checkFallen(x, 7);
        Check.due("the winner's room", x.roomOf(1), 7);
        Check.due("the winner's goods", x.goodsOf(1, 0), 0);
    }

    private static void allGoodsFallInRoomZero() {
        MudCouncil x = laden(0);
        x.join(0, 0, 6);
        x.seed(6);
        Check.due("beaten", x.attack(0), 0);
        checkFallen(x, 0);
        Check.due("the winner's room", x.roomOf(1), 0);
    }

    private static void allGoodsOfAnActorFall() {
        MudCouncil x = laden(7);
        x.join(7, 0, 6);
        sayUntilTurnOf(0, x);
        x.seed(121);
        Check.due("beaten", x.attack(1), 0);
        checkFallen(x, 7);
        Check.due("the winner's room", x.roomOf(1), 7);
    }

    private static void noGoodsFall() {
        MudCouncil x = new MudCouncil();
        x.join(7, 0, 6);
        x.join(7, 0, 0);
        x.scatter(7, 0, 1);
        x.take(0);
        x.rest();
        x.seed(6);
        Check.due("beaten", x.attack(1), 1);
        Check.due("the winner keeps the goods", x.goodsOf(0, 0), 1);
        Edges.each(5, kind -> Check.due("floor", x.onFloor(7, kind), 0));
    }

    private static void thereIsNobodyToAttackThen() {
        Edges.illegalState("one who was beaten is in room 0", x -> {
            x.join(7, 0, 6);
            x.join(7, 0, 0);
            x.seed(6);
            x.attack(1);
        }, x -> x.attack(1));
        MudCouncil x = new MudCouncil();
        x.join(0, 0, 6);
        x.join(0, 0, 0);
        x.seed(6);
        Check.due("beaten in room 0", x.attack(1), 1);
        Check.due("beaten there again", x.attack(1), 1);
    }

    // ---- ready times: "the time of the act plus 10, but not less than it was"

    private static void restUntil(int time, int player, MudCouncil x) {
        for (int i = 0; i < 50 && x.readyAt(player) + 2 <= time; i++) {
            x.rest();
        }
        if (x.readyAt(player) < time) {
            x.say(0);
        }
        Check.due("ready time", x.readyAt(player), time);
    }

    private static MudCouncil beatenWhenReadyAt(int loserTime, int actorTime) {
        MudCouncil x = new MudCouncil();
        x.join(7, 0, 0);
        restUntil(loserTime, 0, x);
        x.join(7, 0, 6);
        restUntil(actorTime, 1, x);
        x.seed(6);
        Check.due("beaten", x.attack(0), 0);
        Check.due("the actor's cost", x.readyAt(1), actorTime + 3);
        return x;
    }

    private static void readyTimeOfABeatenRival() {
        int[] was = {1, 9, 10, 11, 30};
        int[] then = {10, 10, 10, 11, 30};
        Edges.each(5, i -> Check.due("behind " + was[i], beatenWhenReadyAt(was[i], 0).readyAt(0), then[i]));
    }

    private static void readyTimeOfABeatenRivalBehindALaterAct() {
        int[] was = {8, 16, 17, 18, 40};
        int[] then = {17, 17, 17, 18, 40};
        Edges.each(5, i -> Check.due("behind " + was[i], beatenWhenReadyAt(was[i], 7).readyAt(0), then[i]));
    }

    private static void readyTimeOfABeatenActor() {
        Edges.each(4, i -> {
            int time = i * 5;
            MudCouncil x = new MudCouncil();
            x.join(7, 0, 0);
            restUntil(time, 0, x);
            x.join(7, 0, 6);
            sayUntilTurnOf(0, x);
            int winnersTime = x.readyAt(1);
            x.seed(121);
            Check.due("beaten", x.attack(1), 0);
            Check.due("the loser's ready time", x.readyAt(0), time + 10);
            Check.due("the winner's ready time", x.readyAt(1), winnersTime);
            Check.due("turn", x.turn(), 1);
        });
    }
}
