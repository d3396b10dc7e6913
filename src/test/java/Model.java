import java.util.ArrayDeque;
import java.util.ArrayList;
import java.util.Arrays;
import java.util.Deque;
import java.util.List;
import java.util.stream.IntStream;

/**
 * The document told once more, in another way: rooms and players are objects, and the past is written down as it
 * happens instead of being played again, so that a slip in the class is not likely to be made here, too.
 */
final class Model {
    private static final class Room {
        final int[] exits = {-1, -1, -1, -1};
        final int[] floor = new int[5];
        final int[] stock = new int[5];
        final int[] price = new int[5];
        boolean shop;
        int till;
    }

    private static final class Player {
        int number;
        int room;
        int coins;
        int strength;
        int health = 20;
        int ready;
        final int[] goods = new int[5];
        final Deque<Integer> words = new ArrayDeque<>();
        final int[] reached = new int[3];
    }

    private static final class Quest {
        int reward;
        final List<int[]> stages = new ArrayList<>();
    }

    private final List<Room> rooms = new ArrayList<>();
    private final List<Player> players = new ArrayList<>();
    private final List<Quest> quests = new ArrayList<>();
    private final List<int[]> past = new ArrayList<>();
    private int purse;
    private int seed = 1;

    Model() {
        for (int i = 0; i < 8; i++) {
            rooms.add(new Room());
        }
        writeDown();
    }

    // ---- exceptions

    private static void index(boolean is) {
        if (!is) {
            throw new IndexOutOfBoundsException();
        }
    }

    private static void argument(boolean is) {
        if (!is) {
            throw new IllegalArgumentException();
        }
    }

    private static void state(boolean is) {
        if (!is) {
            throw new IllegalStateException();
        }
    }

    private static boolean in(int value, int least, int most) {
        return least <= value && value <= most;
    }

    private Player player(int number) {
        index(in(number, 0, players.size() - 1));
        return players.get(number);
    }

    private Room room(int number) {
        index(in(number, 0, 7));
        return rooms.get(number);
    }

    private static void kind(int kind) {
        index(in(kind, 0, 4));
    }

    private Player actor() {
        state(!players.isEmpty());
        Player first = players.get(0);
        for (Player player : players) {
            first = player.ready < first.ready ? player : first;
        }
        return first;
    }

    // ---- the past: for each number of calls the turn, then room and coins of each player

    private int writeDown() {
        IntStream.Builder row = IntStream.builder();
        row.add(turn());
        for (Player player : players) {
            row.add(player.room).add(player.coins);
        }
        past.add(row.build().toArray());
        return 0;
    }

    private int kept(int answer) {
        writeDown();
        return answer;
    }

    // ---- making the world

    int link(int from, int direction, int to) {
        Room room = room(from);
        index(in(direction, 0, 3));
        Room other = room(to);
        argument(from != to);
        int back = (direction + 2) % 4;
        state(room.exits[direction] < 0 && other.exits[back] < 0);
        room.exits[direction] = to;
        other.exits[back] = from;
        return kept(0);
    }

    int shop(int number, int coins) {
        Room room = room(number);
        argument(in(coins, 0, 1000));
        state(!room.shop);
        room.shop = true;
        room.till = coins;
        return kept(0);
    }

    int stock(int number, int kind, int count, int price) {
        Room room = room(number);
        kind(kind);
        argument(in(count, 0, 20) && in(price, 0, 50));
        state(room.shop);
        room.price[kind] = price;
        room.stock[kind] += count;
        return kept(room.stock[kind]);
    }

    int scatter(int number, int kind, int count) {
        Room room = room(number);
        kind(kind);
        argument(in(count, 1, 9));
        room.floor[kind] += count;
        return kept(room.floor[kind]);
    }

    int join(int room, int coins, int strength) {
        room(room);
        argument(in(coins, 0, 200) && in(strength, 0, 6));
        state(players.size() < 4);
        Player player = new Player();
        player.number = players.size();
        player.room = room;
        player.coins = coins;
        player.strength = strength;
        players.add(player);
        return kept(player.number);
    }

    int quest(int reward) {
        argument(in(reward, 0, 100));
        state(quests.size() < 3);
        Quest quest = new Quest();
        quest.reward = reward;
        quests.add(quest);
        return kept(quests.size() - 1);
    }

    int stage(int number, int kind, int first, int second) {
        index(in(number, 0, quests.size() - 1));
        int[] targets = {8, 5, 8, 4};
        index(!in(kind, 0, 3) || in(first, 0, targets[kind] - 1));
        argument(in(kind, 0, 3));
        argument(kind != MudCouncil.HOLD || in(second, 1, 9));
        argument(kind != MudCouncil.SAY || in(second, 0, 99));
        Quest quest = quests.get(number);
        state(quest.stages.size() < 4);
        state(players.stream().allMatch(player -> player.reached[number] == 0));
        quest.stages.add(new int[] {kind, first, second});
        return kept(quest.stages.size());
    }

    int endow(int coins) {
        argument(in(coins, 1, 1000));
        purse += coins;
        return kept(purse);
    }

    int seed(int value) {
        argument(in(value, 0, 65535));
        seed = value;
        return kept(0);
    }

    // ---- acts

    // The quests look behind the act at the word said (-1 for none) and the player beaten (-1 for none).
    private void end(Player actor, int cost, int word, int beaten) {
        actor.ready += cost;
        for (int i = 0; i < quests.size(); i++) {
            Quest quest = quests.get(i);
            if (actor.reached[i] == quest.stages.size() || !fulfilled(actor, quest.stages.get(actor.reached[i]), word, beaten)) {
                continue;
            }
            actor.reached[i]++;
            if (actor.reached[i] == quest.stages.size()) {
                int given = quest.reward > purse ? purse : quest.reward;
                actor.coins += given;
                purse -= given;
            }
        }
        writeDown();
    }

    private static boolean fulfilled(Player actor, int[] stage, int word, int beaten) {
        return stage[0] == MudCouncil.VISIT && actor.room == stage[1]
                || stage[0] == MudCouncil.HOLD && actor.goods[stage[1]] >= stage[2]
                || stage[0] == MudCouncil.SAY && word == stage[2] && actor.room == stage[1]
                || stage[0] == MudCouncil.BEAT && beaten == stage[1];
    }

    int go(int direction) {
        index(in(direction, 0, 3));
        Player actor = actor();
        int to = rooms.get(actor.room).exits[direction];
        state(to >= 0);
        actor.room = to;
        end(actor, 2, -1, -1);
        return to;
    }

    int say(int word) {
        argument(in(word, 0, 99));
        Player actor = actor();
        return heardBy(actor, word, List.of(actor.room));
    }

    int shout(int word) {
        argument(in(word, 0, 99));
        Player actor = actor();
        List<Integer> near = new ArrayList<>(List.of(actor.room));
        Arrays.stream(rooms.get(actor.room).exits).forEach(near::add);
        return heardBy(actor, word, near);
    }

    private int heardBy(Player actor, int word, List<Integer> near) {
        int hearers = 0;
        for (Player player : players) {
            if (player != actor && near.contains(player.room)) {
                player.words.addFirst(100 * actor.number + word);
                hearers++;
            }
        }
        end(actor, 1, word, -1);
        return hearers;
    }

    int take(int kind) {
        kind(kind);
        Player actor = actor();
        Room room = rooms.get(actor.room);
        state(room.floor[kind] > 0);
        room.floor[kind]--;
        actor.goods[kind]++;
        end(actor, 1, -1, -1);
        return actor.goods[kind];
    }

    int drop(int kind) {
        kind(kind);
        Player actor = actor();
        state(actor.goods[kind] > 0);
        actor.goods[kind]--;
        rooms.get(actor.room).floor[kind]++;
        end(actor, 1, -1, -1);
        return actor.goods[kind];
    }

    int give(int player, int kind) {
        Player other = player(player);
        kind(kind);
        Player actor = actor();
        state(other != actor && other.room == actor.room && actor.goods[kind] > 0);
        actor.goods[kind]--;
        other.goods[kind]++;
        end(actor, 1, -1, -1);
        return actor.goods[kind];
    }

    int pay(int player, int coins) {
        Player other = player(player);
        argument(in(coins, 1, 1000));
        Player actor = actor();
        state(other != actor && other.room == actor.room && actor.coins >= coins);
        actor.coins -= coins;
        other.coins += coins;
        end(actor, 1, -1, -1);
        return actor.coins;
    }

    int buy(int kind) {
        kind(kind);
        Player actor = actor();
        Room room = rooms.get(actor.room);
        int price = room.price[kind];
        state(room.shop && price > 0 && room.stock[kind] > 0 && actor.coins >= price);
        room.stock[kind]--;
        actor.goods[kind]++;
        actor.coins -= price;
        room.till += price;
        end(actor, 1, -1, -1);
        return actor.coins;
    }

    int sell(int kind) {
        kind(kind);
        Player actor = actor();
        Room room = rooms.get(actor.room);
        int half = room.price[kind] >> 1;
        state(room.shop && room.price[kind] > 0 && actor.goods[kind] > 0 && room.till >= half);
        room.stock[kind]++;
        actor.goods[kind]--;
        actor.coins += half;
        room.till -= half;
        end(actor, 1, -1, -1);
        return actor.coins;
    }

    private int roll() {
        seed = (int) ((25173L * seed + 13849L) & 65535L);
        return 1 + seed % 6;
    }

    int attack(int player) {
        Player other = player(player);
        Player actor = actor();
        state(other != actor && other.room == actor.room);
        Player beaten = null;
        for (int round = 1; round <= 3 && beaten == null; round++) {
            int lead = roll() + actor.strength;
            lead -= roll() + other.strength;
            if (lead > 0) {
                other.health -= lead;
            } else {
                actor.health += lead;
            }
            beaten = other.health <= 0 ? other : actor.health <= 0 ? actor : null;
        }
        if (beaten == null) {
            end(actor, 3, -1, -1);
            return -1;
        }
        beat(beaten, beaten == actor ? other : actor, actor.ready + 10);
        end(actor, beaten == actor ? 0 : 3, -1, beaten == actor ? -1 : beaten.number);
        return beaten.number;
    }

    private void beat(Player loser, Player winner, int ready) {
        int half = loser.coins >> 1;
        loser.coins -= half;
        winner.coins += half;
        for (int kind = 0; kind < 5; kind++) {
            rooms.get(loser.room).floor[kind] += loser.goods[kind];
            loser.goods[kind] = 0;
        }
        loser.room = 0;
        loser.health = 10;
        loser.ready = loser.ready > ready ? loser.ready : ready;
    }

    int rest() {
        Player actor = actor();
        actor.health += actor.health < 20 ? 1 : 0;
        end(actor, 2, -1, -1);
        return actor.health;
    }

    // ---- the world as it is

    int turn() {
        return players.isEmpty() ? -1 : actor().number;
    }

    int readyAt(int player) {
        return player(player).ready;
    }

    int roomOf(int player) {
        return player(player).room;
    }

    int coinsOf(int player) {
        return player(player).coins;
    }

    int healthOf(int player) {
        return player(player).health;
    }

    int goodsOf(int player, int kind) {
        kind(kind);
        return player(player).goods[kind];
    }

    int heard(int player, int ago) {
        Player hearer = player(player);
        index(in(ago, 0, Math.min(6, hearer.words.size()) - 1));
        return hearer.words.stream().skip(ago).findFirst().orElseThrow();
    }

    int stageOf(int player, int quest) {
        index(in(quest, 0, quests.size() - 1));
        return player(player).reached[quest];
    }

    int exit(int room, int direction) {
        index(in(direction, 0, 3));
        return room(room).exits[direction];
    }

    int distance(int from, int to) {
        room(from);
        room(to);
        int[][] least = new int[8][8];
        for (int i = 0; i < 8; i++) {
            Arrays.fill(least[i], 99);
            least[i][i] = 0;
            for (int exit : rooms.get(i).exits) {
                if (exit >= 0) {
                    least[i][exit] = 1;
                }
            }
        }
        for (int k = 0; k < 8; k++) {
            for (int i = 0; i < 8; i++) {
                for (int j = 0; j < 8; j++) {
                    least[i][j] = Math.min(least[i][j], least[i][k] + least[k][j]);
                }
            }
        }
        return least[from][to] < 99 ? least[from][to] : -1;
    }

    int onFloor(int room, int kind) {
        kind(kind);
        return room(room).floor[kind];
    }

    int stockOf(int room, int kind) {
        kind(kind);
        return room(room).stock[kind];
    }

    int tillOf(int room) {
        return room(room).shop ? room(room).till : -1;
    }

    int purse() {
        return purse;
    }

    int allCoins() {
        return purse + players.stream().mapToInt(player -> player.coins).sum()
                + rooms.stream().mapToInt(room -> room.till).sum();
    }

    int allGoods(int kind) {
        kind(kind);
        return players.stream().mapToInt(player -> player.goods[kind]).sum()
                + rooms.stream().mapToInt(room -> room.floor[kind] + room.stock[kind]).sum();
    }

    // ---- the world as it was

    int calls() {
        return past.size() - 1;
    }

    private int[] pastRow(int calls) {
        index(in(calls, 0, calls()));
        return past.get(calls);
    }

    int roomAfter(int calls, int player) {
        int[] row = pastRow(calls);
        index(in(player, 0, row.length / 2 - 1));
        return row[1 + 2 * player];
    }

    int coinsAfter(int calls, int player) {
        int[] row = pastRow(calls);
        index(in(player, 0, row.length / 2 - 1));
        return row[2 + 2 * player];
    }

    int turnAfter(int calls) {
        return pastRow(calls)[0];
    }
}
