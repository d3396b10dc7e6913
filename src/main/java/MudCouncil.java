import java.util.Arrays;

/**
 * A world of rooms in which players act in turns: they walk, talk, trade, fight and fulfil quests.
 *
 * <p>The face looks at every argument and throws where the document says so; what it lets through is kept and can
 * always be played, so that the classes inside look at nothing again, neither now nor when the past is played anew.
 */
public final class MudCouncil {
    public static final int NONE = -1;
    public static final int NORTH = 0, EAST = 1, SOUTH = 2, WEST = 3;
    public static final int VISIT = 0, HOLD = 1, SAY = 2, BEAT = 3;

    private static final int ROOMS = 8;
    private static final int DIRECTIONS = 4;
    private static final int KINDS = 5;
    private static final int PLAYERS = 4;
    private static final int QUESTS = 3;
    private static final int STAGES = 4;
    private static final int WORDS_KEPT = 6;
    private static final int SPEAKER_FACTOR = 100;
    private static final int HIGHEST_WORD = 99;
    private static final int HIGHEST_SEED = 65535;
    private static final int FULL_HEALTH = 20;
    private static final int HEALTH_WHEN_BEATEN = 10;
    private static final int DELAY_WHEN_BEATEN = 10;
    private static final int FIGHT_ROUNDS = 3;

    // The kinds of calls that are kept; GO is the first act, all ahead of it make the world.
    private static final int LINK = 0;
    private static final int SHOP = 1;
    private static final int STOCK = 2;
    private static final int SCATTER = 3;
    private static final int JOIN = 4;
    private static final int QUEST = 5;
    private static final int STAGE = 6;
    private static final int ENDOW = 7;
    private static final int SEED = 8;
    private static final int GO = 9;
    private static final int SPEAK = 10;
    private static final int SHOUT = 11;
    private static final int TAKE = 12;
    private static final int DROP = 13;
    private static final int GIVE = 14;
    private static final int PAY = 15;
    private static final int BUY = 16;
    private static final int SELL = 17;
    private static final int ATTACK = 18;
    private static final int REST = 19;

    private final Log log = new Log();
    private final World now = new World();
    // One world for all questions about the past: it is cleared and played anew, so that none is made per question.
    private final World past = new World();

    public MudCouncil() {
    }

    // ---- making the world

    public void link(int room, int direction, int other)
            throws IndexOutOfBoundsException, IllegalArgumentException, IllegalStateException {
        needRoom(room);
        needDirection(direction);
        needRoom(other);
        if (room == other) {
            throw new IllegalArgumentException("both rooms are the same");
        }
        if (now.places.exitFrom(room, direction) != NONE
                || now.places.exitFrom(other, opposite(direction)) != NONE) {
            throw new IllegalStateException("one of both exits is there already");
        }
        keep(LINK, room, direction, other, 0);
    }

    public void shop(int room, int coins)
            throws IndexOutOfBoundsException, IllegalArgumentException, IllegalStateException {
        needRoom(room);
        needRange(coins, 0, 1000);
        if (now.places.hasShop(room)) {
            throw new IllegalStateException("the room has a shop");
        }
        keep(SHOP, room, coins, 0, 0);
    }

    public int stock(int room, int kind, int count, int price)
            throws IndexOutOfBoundsException, IllegalArgumentException, IllegalStateException {
        needRoom(room);
        needKind(kind);
        needRange(count, 0, 20);
        needRange(price, 0, 50);
        if (!now.places.hasShop(room)) {
            throw new IllegalStateException("the room has no shop");
        }
        return keep(STOCK, room, kind, count, price);
    }

    public int scatter(int room, int kind, int count) throws IndexOutOfBoundsException, IllegalArgumentException {
        needRoom(room);
        needKind(kind);
        needRange(count, 1, 9);
        return keep(SCATTER, room, kind, count, 0);
    }

    public int join(int room, int coins, int strength)
            throws IndexOutOfBoundsException, IllegalArgumentException, IllegalStateException {
        needRoom(room);
        needRange(coins, 0, 200);
        needRange(strength, 0, 6);
        if (now.people.count >= PLAYERS) {
            throw new IllegalStateException("all players have joined");
        }
        return keep(JOIN, room, coins, strength, 0);
    }

    public int quest(int reward) throws IllegalArgumentException, IllegalStateException {
        needRange(reward, 0, 100);
        if (now.quests.count >= QUESTS) {
            throw new IllegalStateException("there are all quests already");
        }
        return keep(QUEST, reward, 0, 0, 0);
    }

    public int stage(int quest, int kind, int first, int second)
            throws IndexOutOfBoundsException, IllegalArgumentException, IllegalStateException {
        needQuest(quest);
        needStageTarget(kind, first);
        needRange(kind, VISIT, BEAT);
        needStageMeasure(kind, second);
        if (now.quests.lengths[quest] >= STAGES) {
            throw new IllegalStateException("the quest has all its stages");
        }
        if (now.people.isBegun(quest)) {
            throw new IllegalStateException("some player has reached one of its stages");
        }
        return keep(STAGE, quest, kind, first, second);
    }

    public int endow(int coins) throws IllegalArgumentException {
        needRange(coins, 1, 1000);
        return keep(ENDOW, coins, 0, 0, 0);
    }

    public void seed(int seed) throws IllegalArgumentException {
        needRange(seed, 0, HIGHEST_SEED);
        keep(SEED, seed, 0, 0, 0);
    }

    // ---- acts

    public int go(int direction) throws IndexOutOfBoundsException, IllegalStateException {
        needDirection(direction);
        int room = now.people.rooms[needActor()];
        if (now.places.exitFrom(room, direction) == NONE) {
            throw new IllegalStateException("there is no exit");
        }
        return keep(GO, direction, 0, 0, 0);
    }

    public int say(int word) throws IllegalArgumentException, IllegalStateException {
        needRange(word, 0, HIGHEST_WORD);
        needActor();
        return keep(SPEAK, word, 0, 0, 0);
    }

    public int shout(int word) throws IllegalArgumentException, IllegalStateException {
        needRange(word, 0, HIGHEST_WORD);
        needActor();
        return keep(SHOUT, word, 0, 0, 0);
    }

    public int take(int kind) throws IndexOutOfBoundsException, IllegalStateException {
        needKind(kind);
        int room = now.people.rooms[needActor()];
        if (now.places.floors[goodsAt(room, kind)] <= 0) {
            throw new IllegalStateException("none of that kind lies there");
        }
        return keep(TAKE, kind, 0, 0, 0);
    }

    public int drop(int kind) throws IndexOutOfBoundsException, IllegalStateException {
        needKind(kind);
        needOwned(needActor(), kind);
        return keep(DROP, kind, 0, 0, 0);
    }

    public int give(int player, int kind) throws IndexOutOfBoundsException, IllegalStateException {
        needPlayer(player);
        needKind(kind);
        int actor = needActor();
        needCompany(actor, player);
        needOwned(actor, kind);
        return keep(GIVE, player, kind, 0, 0);
    }

    public int pay(int player, int coins)
            throws IndexOutOfBoundsException, IllegalArgumentException, IllegalStateException {
        needPlayer(player);
        needRange(coins, 1, 1000);
        int actor = needActor();
        needCompany(actor, player);
        needCoins(now.people.coins[actor], coins);
        return keep(PAY, player, coins, 0, 0);
    }

    public int buy(int kind) throws IndexOutOfBoundsException, IllegalStateException {
        needKind(kind);
        int actor = needActor();
        int room = now.people.rooms[actor];
        needTrade(room, kind);
        if (now.places.stocks[goodsAt(room, kind)] <= 0) {
            throw new IllegalStateException("none of that kind is in stock");
        }
        needCoins(now.people.coins[actor], now.places.prices[goodsAt(room, kind)]);
        return keep(BUY, kind, 0, 0, 0);
    }

    public int sell(int kind) throws IndexOutOfBoundsException, IllegalStateException {
        needKind(kind);
        int actor = needActor();
        int room = now.people.rooms[actor];
        needTrade(room, kind);
        needOwned(actor, kind);
        needCoins(now.places.tills[room], now.places.halfPrice(room, kind));
        return keep(SELL, kind, 0, 0, 0);
    }

    public int attack(int player) throws IndexOutOfBoundsException, IllegalStateException {
        needPlayer(player);
        needCompany(needActor(), player);
        return keep(ATTACK, player, 0, 0, 0);
    }

    public int rest() throws IllegalStateException {
        needActor();
        return keep(REST, 0, 0, 0, 0);
    }

    // ---- the world as it is

    public int turn() {
        return now.people.next();
    }

    public int readyAt(int player) throws IndexOutOfBoundsException {
        needPlayer(player);
        return now.people.readyTimes[player];
    }

    public int roomOf(int player) throws IndexOutOfBoundsException {
        needPlayer(player);
        return now.people.rooms[player];
    }

    public int coinsOf(int player) throws IndexOutOfBoundsException {
        needPlayer(player);
        return now.people.coins[player];
    }

    public int healthOf(int player) throws IndexOutOfBoundsException {
        needPlayer(player);
        return now.people.healths[player];
    }

    public int goodsOf(int player, int kind) throws IndexOutOfBoundsException {
        needPlayer(player);
        needKind(kind);
        return now.people.goods[goodsAt(player, kind)];
    }

    public int heard(int player, int ago) throws IndexOutOfBoundsException {
        needPlayer(player);
        if (ago < 0 || ago >= now.people.wordCounts[player]) {
            throw new IndexOutOfBoundsException("not so many words are kept");
        }
        return now.people.words[player * WORDS_KEPT + ago];
    }

    public int stageOf(int player, int quest) throws IndexOutOfBoundsException {
        needPlayer(player);
        needQuest(quest);
        return now.people.reached[reachedAt(player, quest)];
    }

    public int exit(int room, int direction) throws IndexOutOfBoundsException {
        needRoom(room);
        needDirection(direction);
        return now.places.exitFrom(room, direction);
    }

    public int distance(int room, int other) throws IndexOutOfBoundsException {
        needRoom(room);
        needRoom(other);
        return now.places.stepsBetween(room, other);
    }

    public int onFloor(int room, int kind) throws IndexOutOfBoundsException {
        needRoom(room);
        needKind(kind);
        return now.places.floors[goodsAt(room, kind)];
    }

    public int stockOf(int room, int kind) throws IndexOutOfBoundsException {
        needRoom(room);
        needKind(kind);
        return now.places.stocks[goodsAt(room, kind)];
    }

    public int tillOf(int room) throws IndexOutOfBoundsException {
        needRoom(room);
        return now.places.tills[room];
    }

    public int purse() {
        return now.purse;
    }

    public int allCoins() {
        return now.purse + now.people.sumOfCoins() + now.places.sumOfTills();
    }

    public int allGoods(int kind) throws IndexOutOfBoundsException {
        needKind(kind);
        return now.people.sumOfGoods(kind) + now.places.sumOfGoods(kind);
    }

    // ---- the world as it was

    public int calls() {
        return log.count;
    }

    public int roomAfter(int calls, int player) throws IndexOutOfBoundsException {
        World world = worldAfter(calls);
        needPlayerIn(world, player);
        return world.people.rooms[player];
    }

    public int coinsAfter(int calls, int player) throws IndexOutOfBoundsException {
        World world = worldAfter(calls);
        needPlayerIn(world, player);
        return world.people.coins[player];
    }

    public int turnAfter(int calls) throws IndexOutOfBoundsException {
        return worldAfter(calls).people.next();
    }

    // ---- keeping calls and playing them once more

    private int keep(int call, int a, int b, int c, int d) {
        log.add(call, a, b, c, d);
        return now.play(call, a, b, c, d);
    }

    private World worldAfter(int calls) {
        if (calls < 0 || calls > log.count) {
            throw new IndexOutOfBoundsException("there were not so many calls");
        }
        past.clear();
        for (int i = 0; i < calls; i++) {
            int at = i * Log.WIDTH;
            past.play(log.rows[at], log.rows[at + 1], log.rows[at + 2], log.rows[at + 3], log.rows[at + 4]);
        }
        return past;
    }

    // ---- what calls need

    private static void needRoom(int room) {
        if (room < 0 || room >= ROOMS) {
            throw new IndexOutOfBoundsException("there is no such room");
        }
    }

    private static void needDirection(int direction) {
        if (direction < 0 || direction >= DIRECTIONS) {
            throw new IndexOutOfBoundsException("there is no such direction");
        }
    }

    private static void needKind(int kind) {
        if (kind < 0 || kind >= KINDS) {
            throw new IndexOutOfBoundsException("there is no such kind");
        }
    }

    private void needPlayer(int player) {
        needPlayerIn(now, player);
    }

    private static void needPlayerIn(World world, int player) {
        if (player < 0 || player >= world.people.count) {
            throw new IndexOutOfBoundsException("there is no such player");
        }
    }

    private void needQuest(int quest) {
        if (quest < 0 || quest >= now.quests.count) {
            throw new IndexOutOfBoundsException("there is no such quest");
        }
    }

    private static void needRange(int value, int least, int most) {
        if (value < least || value > most) {
            throw new IllegalArgumentException("an argument is out of its range");
        }
    }

    // An unknown kind of stage says nothing of its target, so that this looks at known kinds alone.
    private static void needStageTarget(int kind, int first) {
        if (kind == VISIT || kind == SAY) {
            needRoom(first);
        } else if (kind == HOLD) {
            needKind(first);
        } else if (kind == BEAT && (first < 0 || first >= PLAYERS)) {
            throw new IndexOutOfBoundsException("there is no such player");
        }
    }

    private static void needStageMeasure(int kind, int second) {
        if (kind == HOLD) {
            needRange(second, 1, 9);
        } else if (kind == SAY) {
            needRange(second, 0, HIGHEST_WORD);
        }
    }

    private int needActor() {
        int actor = now.people.next();
        if (actor == NONE) {
            throw new IllegalStateException("there are no players");
        }
        return actor;
    }

    private void needCompany(int actor, int player) {
        if (player == actor || now.people.rooms[player] != now.people.rooms[actor]) {
            throw new IllegalStateException("the player is the actor or in another room");
        }
    }

    private void needOwned(int actor, int kind) {
        if (now.people.goods[goodsAt(actor, kind)] <= 0) {
            throw new IllegalStateException("the actor has none of that kind");
        }
    }

    private void needTrade(int room, int kind) {
        if (!now.places.hasShop(room) || now.places.prices[goodsAt(room, kind)] == 0) {
            throw new IllegalStateException("that kind is not traded here");
        }
    }

    private static void needCoins(int coins, int price) {
        if (coins < price) {
            throw new IllegalStateException("there are not so many coins");
        }
    }

    // ---- where things stand in rows

    private static int opposite(int direction) {
        return (direction + 2) % DIRECTIONS;
    }

    private static int goodsAt(int owner, int kind) {
        return owner * KINDS + kind;
    }

    private static int reachedAt(int player, int quest) {
        return player * QUESTS + quest;
    }

    private static int stageAt(int quest, int number) {
        return quest * STAGES + number;
    }

    /** The calls that are kept, each as its kind and four arguments. */
    private static final class Log {
        static final int WIDTH = 5;
        static final int MOST_CALLS = 512;

        final int[] rows = new int[MOST_CALLS * WIDTH];
        int count = 0;

        // An object is used for no more calls than have room here; later ones still act, but are not kept.
        void add(int call, int a, int b, int c, int d) {
            if (count >= MOST_CALLS) {
                return;
            }
            int at = count * WIDTH;
            rows[at] = call;
            rows[at + 1] = a;
            rows[at + 2] = b;
            rows[at + 3] = c;
            rows[at + 4] = d;
            count++;
        }
    }

    private static final class Places {
        final int[] exits = new int[ROOMS * DIRECTIONS];
        final int[] tills = new int[ROOMS];
        final int[] prices = new int[ROOMS * KINDS];
        final int[] stocks = new int[ROOMS * KINDS];
        final int[] floors = new int[ROOMS * KINDS];
        private final int[] steps = new int[ROOMS];

        Places() {
            clear();
        }

        void clear() {
            Arrays.fill(exits, NONE);
            Arrays.fill(tills, NONE);
            Arrays.fill(prices, 0);
            Arrays.fill(stocks, 0);
            Arrays.fill(floors, 0);
        }

        int exitFrom(int room, int direction) {
            return exits[room * DIRECTIONS + direction];
        }

        void connect(int room, int direction, int other) {
            exits[room * DIRECTIONS + direction] = other;
            exits[other * DIRECTIONS + opposite(direction)] = room;
        }

        boolean leadsTo(int room, int other) {
            for (int direction = 0; direction < DIRECTIONS; direction++) {
                if (exits[room * DIRECTIONS + direction] == other) {
                    return true;
                }
            }
            return false;
        }

        // No way through the rooms needs more steps than there are rooms.
        int stepsBetween(int room, int other) {
            Arrays.fill(steps, NONE);
            steps[room] = 0;
            for (int step = 0; step < ROOMS; step++) {
                for (int from = 0; from < ROOMS; from++) {
                    if (steps[from] == step) {
                        stepOut(from);
                    }
                }
            }
            return steps[other];
        }

        private void stepOut(int from) {
            for (int direction = 0; direction < DIRECTIONS; direction++) {
                int to = exitFrom(from, direction);
                if (to != NONE && steps[to] == NONE) {
                    steps[to] = steps[from] + 1;
                }
            }
        }

        boolean hasShop(int room) {
            return tills[room] != NONE;
        }

        int halfPrice(int room, int kind) {
            return prices[goodsAt(room, kind)] / 2;
        }

        int addStock(int room, int kind, int added, int price) {
            int at = goodsAt(room, kind);
            prices[at] = price;
            stocks[at] += added;
            return stocks[at];
        }

        int addToFloor(int room, int kind, int added) {
            int at = goodsAt(room, kind);
            floors[at] += added;
            return floors[at];
        }

        int sumOfTills() {
            int sum = 0;
            for (int room = 0; room < ROOMS; room++) {
                if (hasShop(room)) {
                    sum += tills[room];
                }
            }
            return sum;
        }

        int sumOfGoods(int kind) {
            int sum = 0;
            for (int room = 0; room < ROOMS; room++) {
                sum += floors[goodsAt(room, kind)] + stocks[goodsAt(room, kind)];
            }
            return sum;
        }
    }

    private static final class People {
        int count = 0;
        final int[] rooms = new int[PLAYERS];
        final int[] coins = new int[PLAYERS];
        final int[] strengths = new int[PLAYERS];
        final int[] healths = new int[PLAYERS];
        final int[] readyTimes = new int[PLAYERS];
        final int[] goods = new int[PLAYERS * KINDS];
        final int[] reached = new int[PLAYERS * QUESTS];
        final int[] words = new int[PLAYERS * WORDS_KEPT];
        final int[] wordCounts = new int[PLAYERS];

        // What a joining player does not bring along has to be empty already.
        void clear() {
            count = 0;
            Arrays.fill(goods, 0);
            Arrays.fill(reached, 0);
            Arrays.fill(wordCounts, 0);
        }

        int add(int room, int broughtCoins, int strength) {
            int player = count;
            rooms[player] = room;
            coins[player] = broughtCoins;
            strengths[player] = strength;
            healths[player] = FULL_HEALTH;
            readyTimes[player] = 0;
            count++;
            return player;
        }

        int next() {
            int next = NONE;
            for (int player = 0; player < count; player++) {
                if (next == NONE || readyTimes[player] < readyTimes[next]) {
                    next = player;
                }
            }
            return next;
        }

        int addGoods(int player, int kind, int added) {
            int at = goodsAt(player, kind);
            goods[at] += added;
            return goods[at];
        }

        void payOut(int payer, int receiver, int amount) {
            coins[payer] -= amount;
            coins[receiver] += amount;
        }

        void hear(int player, int word) {
            int first = player * WORDS_KEPT;
            for (int ago = WORDS_KEPT - 1; ago > 0; ago--) {
                words[first + ago] = words[first + ago - 1];
            }
            words[first] = word;
            wordCounts[player] = Math.min(wordCounts[player] + 1, WORDS_KEPT);
        }

        boolean isBegun(int quest) {
            for (int player = 0; player < count; player++) {
                if (reached[reachedAt(player, quest)] > 0) {
                    return true;
                }
            }
            return false;
        }

        int sumOfCoins() {
            int sum = 0;
            for (int player = 0; player < count; player++) {
                sum += coins[player];
            }
            return sum;
        }

        int sumOfGoods(int kind) {
            int sum = 0;
            for (int player = 0; player < count; player++) {
                sum += goods[goodsAt(player, kind)];
            }
            return sum;
        }
    }

    private static final class Quests {
        int count = 0;
        final int[] rewards = new int[QUESTS];
        final int[] lengths = new int[QUESTS];
        final int[] kinds = new int[QUESTS * STAGES];
        final int[] firsts = new int[QUESTS * STAGES];
        final int[] seconds = new int[QUESTS * STAGES];

        void clear() {
            count = 0;
        }

        int add(int reward) {
            int quest = count;
            rewards[quest] = reward;
            lengths[quest] = 0;
            count++;
            return quest;
        }

        int addStage(int quest, int kind, int first, int second) {
            int at = stageAt(quest, lengths[quest]);
            kinds[at] = kind;
            firsts[at] = first;
            seconds[at] = second;
            lengths[quest]++;
            return lengths[quest];
        }
    }

    /** One world. It plays only calls that the face has looked at, so that they can all be made. */
    private static final class World {
        final Places places = new Places();
        final People people = new People();
        final Quests quests = new Quests();
        int purse = 0;
        private int dieSeed = 1;

        void clear() {
            places.clear();
            people.clear();
            quests.clear();
            purse = 0;
            dieSeed = 1;
        }

        int play(int call, int a, int b, int c, int d) {
            if (call < GO) {
                return make(call, a, b, c, d);
            }
            int actor = people.next();
            if (actor == NONE) {
                return NONE;
            }
            int time = people.readyTimes[actor];
            int answer = perform(call, actor, a, b);
            people.readyTimes[actor] = time + costOf(call);
            int loser = call == ATTACK ? answer : NONE;
            if (loser != NONE) {
                defeat(loser, loser == actor ? a : actor, time);
            }
            int word = call == SPEAK || call == SHOUT ? a : NONE;
            pursueQuests(actor, word, loser == actor ? NONE : loser);
            // A quest may have paid the actor, so that these are told only now.
            boolean tellsCoins = call == PAY || call == BUY || call == SELL;
            return tellsCoins ? people.coins[actor] : answer;
        }

        private int make(int call, int a, int b, int c, int d) {
            switch (call) {
                case LINK:
                    places.connect(a, b, c);
                    return 0;
                case SHOP:
                    places.tills[a] = b;
                    return 0;
                case STOCK:
                    return places.addStock(a, b, c, d);
                case SCATTER:
                    return places.addToFloor(a, b, c);
                case JOIN:
                    return people.add(a, b, c);
                case QUEST:
                    return quests.add(a);
                case STAGE:
                    return quests.addStage(a, b, c, d);
                case ENDOW:
                    purse += a;
                    return purse;
                default:
                    dieSeed = a;
                    return 0;
            }
        }

        private static int costOf(int call) {
            if (call == ATTACK) {
                return 3;
            }
            return call == GO || call == REST ? 2 : 1;
        }

        private int perform(int call, int actor, int a, int b) {
            int room = people.rooms[actor];
            switch (call) {
                case GO:
                    people.rooms[actor] = places.exitFrom(room, a);
                    return people.rooms[actor];
                case SPEAK:
                    return tell(actor, a, false);
                case SHOUT:
                    return tell(actor, a, true);
                case TAKE:
                    places.addToFloor(room, a, -1);
                    return people.addGoods(actor, a, 1);
                case DROP:
                    places.addToFloor(room, a, 1);
                    return people.addGoods(actor, a, -1);
                case GIVE:
                    people.addGoods(a, b, 1);
                    return people.addGoods(actor, b, -1);
                case PAY:
                    people.payOut(actor, a, b);
                    return 0;
                case BUY:
                    trade(actor, a, 1, places.prices[goodsAt(room, a)]);
                    return 0;
                case SELL:
                    trade(actor, a, -1, -places.halfPrice(room, a));
                    return 0;
                case ATTACK:
                    return fight(actor, a);
                default:
                    people.healths[actor] = Math.min(people.healths[actor] + 1, FULL_HEALTH);
                    return people.healths[actor];
            }
        }

        private int tell(int actor, int word, boolean loud) {
            int here = people.rooms[actor];
            int hearers = 0;
            for (int player = 0; player < people.count; player++) {
                int there = people.rooms[player];
                boolean near = there == here || loud && places.leadsTo(here, there);
                if (player != actor && near) {
                    people.hear(player, SPEAKER_FACTOR * actor + word);
                    hearers++;
                }
            }
            return hearers;
        }

        private void trade(int actor, int kind, int bought, int paid) {
            int room = people.rooms[actor];
            people.addGoods(actor, kind, bought);
            places.stocks[goodsAt(room, kind)] -= bought;
            people.coins[actor] -= paid;
            places.tills[room] += paid;
        }

        private int roll() {
            dieSeed = (25173 * dieSeed + 13849) % 65536;
            return dieSeed % 6 + 1;
        }

        private int fight(int actor, int rival) {
            for (int round = 0; round < FIGHT_ROUNDS; round++) {
                int actorSum = roll() + people.strengths[actor];
                int rivalSum = roll() + people.strengths[rival];
                int weaker = actorSum < rivalSum ? actor : rival;
                people.healths[weaker] -= Math.abs(actorSum - rivalSum);
                if (people.healths[weaker] <= 0) {
                    return weaker;
                }
            }
            return NONE;
        }

        private void defeat(int loser, int winner, int time) {
            people.payOut(loser, winner, people.coins[loser] / 2);
            for (int kind = 0; kind < KINDS; kind++) {
                int lost = people.goods[goodsAt(loser, kind)];
                people.addGoods(loser, kind, -lost);
                places.addToFloor(people.rooms[loser], kind, lost);
            }
            people.rooms[loser] = 0;
            people.healths[loser] = HEALTH_WHEN_BEATEN;
            people.readyTimes[loser] = Math.max(people.readyTimes[loser], time + DELAY_WHEN_BEATEN);
        }

        private void pursueQuests(int actor, int word, int victim) {
            for (int quest = 0; quest < quests.count; quest++) {
                int at = reachedAt(actor, quest);
                int stage = people.reached[at];
                if (stage < quests.lengths[quest] && isFulfilled(stageAt(quest, stage), actor, word, victim)) {
                    people.reached[at]++;
                    if (people.reached[at] == quests.lengths[quest]) {
                        reward(actor, quests.rewards[quest]);
                    }
                }
            }
        }

        private boolean isFulfilled(int stage, int actor, int word, int victim) {
            int first = quests.firsts[stage];
            int second = quests.seconds[stage];
            switch (quests.kinds[stage]) {
                case VISIT:
                    return people.rooms[actor] == first;
                case HOLD:
                    return people.goods[goodsAt(actor, first)] >= second;
                case SAY:
                    return word == second && people.rooms[actor] == first;
                default:
                    return victim == first;
            }
        }

        private void reward(int actor, int promised) {
            int paid = Math.min(promised, purse);
            purse -= paid;
            people.coins[actor] += paid;
        }
    }
}
