import java.util.ArrayList;
import java.util.Arrays;
import java.util.List;

/**
 * A NODE that speaks with PEERS in messages made of attributes, over connections of octets, on a
 * clock that is told. The words in capitals are those of the document.
 */
public final class QuotaPeers {
    private static final int NO_SUCH = -1;
    private static final int OUTSIDE = -2;
    private static final int NOT_NOW = -3;
    private static final int NO_ROOM = -4;

    private static final int NAME_MOST = 40;
    private static final int PEERS_MOST = 4;
    private static final int CONNECTIONS_MOST = 8;
    private static final int ACCOUNTS_MOST = 16;
    private static final int SESSIONS_MOST = 16;
    private static final int ASKS_MOST = 64;
    private static final int KEPT_MOST = 32;
    private static final int MESSAGE_MOST = 600;
    private static final int WAITING_MOST = 2000;
    private static final int FEED_MOST = 32;
    private static final int GROUPS_DEEP = 3;

    private static final int STATE_SECONDS = 10;
    private static final int TIMER_SECONDS = 30;
    private static final int KEPT_SECONDS = 240;
    private static final int SESSION_SECONDS = 600;
    private static final int TICK_SECONDS = 2000;
    private static final int NEVER = Integer.MAX_VALUE;

    private static final long UNITS_MOST = 1L << 60;
    private static final long NUMBER_MOST = 99999999999999999L;
    private static final int NUMBER_DIGITS = 17;
    private static final long USUAL_GRANT = 1000;
    private static final long NONE = -1;
    private static final int BACK_ANSWERS = 3;

    private static final byte[] FIRST_HOST = {'m', '.', 'h', 'o', 'm', 'e'};
    /** "home" and "peer": a text of four octets is laid out just as a number is. */
    private static final int HOME = 0x686F6D65;
    private static final int PRODUCT_NAME = 0x70656572;

    private static final int HEAD = 20;
    private static final int ATTRIBUTE_HEAD = 8;
    private static final int VERSION = 1;
    private static final int REQUEST = 128;
    private static final int PASSED = 64;
    private static final int FAULT = 32;
    private static final int AGAIN = 16;
    private static final int MAKER = 128;
    private static final int MUST = 64;
    private static final int KEPT_FLAG = 32;
    private static final int SIZE_MASK = 0xFFFFFF;
    private static final long WORD_MASK = 0xFFFFFFFFL;

    private static final int OPENING = 257;
    private static final int ASKING = 258;
    private static final int CREDIT = 272;
    private static final int WATCH = 280;
    private static final int ENDING = 282;
    private static final int CREDIT_APPLICATION = 4;

    private static final int ADDRESS = 257;
    private static final int AUTH = 258;
    private static final int SESSION = 263;
    private static final int HOST = 264;
    private static final int VENDOR = 266;
    private static final int RESULT = 268;
    private static final int PRODUCT = 269;
    private static final int CAUSE = 273;
    private static final int STATE = 278;
    private static final int FAILED = 279;
    private static final int TO_REALM = 283;
    private static final int KIND = 285;
    private static final int TO_HOST = 293;
    private static final int REALM = 296;
    private static final int COUNT = 415;
    private static final int TYPE = 416;
    private static final int UNITS = 421;
    private static final int ENOUGH = 422;
    private static final int GRANTED = 431;
    private static final int ACTION = 436;
    private static final int WANTED = 437;
    private static final int SUBSCRIBER = 443;
    private static final int WHO = 444;
    private static final int USED = 446;
    private static final int TIME = 448;
    private static final int SORT = 450;

    private static final int UNKNOWN_KIND = 0;
    private static final int TEXT_KIND = 1;
    private static final int NUMBER_KIND = 2;
    private static final int UNITS_KIND = 3;
    private static final int ADDRESS_KIND = 4;
    private static final int GROUP_KIND = 5;

    private static final int[] NO_MUSTS = {};
    private static final int[] OPENING_MUSTS = {HOST, REALM, AUTH};
    private static final int[] WATCH_MUSTS = {HOST, REALM};
    private static final int[] ENDING_MUSTS = {HOST, REALM, CAUSE};
    private static final int[] CREDIT_MUSTS = {SESSION, HOST, REALM, TYPE, COUNT};
    private static final int[] ANSWER_MUSTS = {RESULT, HOST, REALM};

    private static final int DONE = 2001;
    private static final int COMMAND_UNKNOWN = 3001;
    private static final int UNDELIVERED = 3002;
    private static final int CAME_TOO_MANY = 3004;
    private static final int APPLICATION_WRONG = 3007;
    private static final int MESSAGE_FLAGS_WRONG = 3008;
    private static final int ATTRIBUTE_FLAGS_WRONG = 3009;
    private static final int PEER_UNKNOWN = 3010;
    private static final int NOTHING_FREE = 4012;
    private static final int ATTRIBUTE_UNKNOWN = 5001;
    private static final int SESSION_UNKNOWN = 5002;
    private static final int VALUE_WRONG = 5004;
    private static final int ATTRIBUTE_MISSING = 5005;
    private static final int ATTRIBUTE_TWICE = 5009;
    private static final int AUTH_WRONG = 5010;
    private static final int VERSION_WRONG = 5011;
    private static final int UNABLE = 5012;
    private static final int LENGTH_WRONG = 5014;
    private static final int ACCOUNT_UNKNOWN = 5030;

    private static final int BEGINS = 1;
    private static final int ENDS = 3;
    private static final int ONCE = 4;
    private static final int CHARGE = 0;
    private static final int LOOK = 2;

    private static final int LINE_CLOSED = 0;
    private static final int LINE_ASKED = 1;
    private static final int LINE_OPEN = 2;
    private static final int SIDE_NONE = 0;
    private static final int SIDE_OWN = 1;
    private static final int SIDE_CAME = 2;

    private static final int PEER_CLOSED = 0;
    private static final int PEER_WAITING = 1;
    private static final int PEER_ASKING = 2;
    private static final int PEER_BOTH = 3;
    private static final int PEER_CHOOSING = 4;
    private static final int PEER_OPEN_CAME = 5;
    private static final int PEER_OPEN_OWN = 6;
    private static final int PEER_ENDING = 7;

    private static final int NEW = 0;
    private static final int GOOD = 1;
    private static final int SILENT = 2;
    private static final int DOWN = 3;
    private static final int BACK = 4;

    private final byte[] hand = new byte[NAME_MOST];
    private int handCount;
    private byte[] host = FIRST_HOST;
    private int now;
    private int lastHop;
    private int passedOver;
    private final Connection[] connections = new Connection[CONNECTIONS_MOST];
    private final List<Peer> peers = new ArrayList<>();
    private final List<Ask> asks = new ArrayList<>();
    private final List<KeptAnswer> keptAnswers = new ArrayList<>();
    private final Ledger ledger = new Ledger();
    private final Message message = new Message();
    private final Draft draft = new Draft();

    public QuotaPeers() {
        for (int i = 0; i < connections.length; i++) {
            connections[i] = new Connection(i + 1);
        }
        draft.setOrigin(host);
    }

    public int sign(int c) {
        if (c == -1) {
            handCount = 0;
            return 0;
        }
        int more = 0;
        for (int shift = 24; shift >= 0; shift -= 8) {
            int octet = (c >>> shift) & 255;
            if (octet != 0 && !isOfNames(octet)) {
                return OUTSIDE;
            }
            more += octet == 0 ? 0 : 1;
        }
        if (handCount + more > NAME_MOST) {
            return NO_ROOM;
        }
        for (int shift = 24; shift >= 0; shift -= 8) {
            int octet = (c >>> shift) & 255;
            if (octet != 0 && handCount >= 0 && handCount < hand.length) {
                hand[handCount] = (byte) octet;
                handCount++;
            }
        }
        return handCount;
    }

    public int own() {
        if (handCount == 0) {
            return OUTSIDE;
        }
        if (!peers.isEmpty()) {
            return NOT_NOW;
        }
        host = takeHand();
        draft.setOrigin(host);
        return host.length;
    }

    public int peer(boolean starts) {
        if (handCount == 0) {
            return OUTSIDE;
        }
        if (isHand(host) || isHandOfPeer()) {
            return NOT_NOW;
        }
        if (peers.size() >= PEERS_MOST) {
            return NO_ROOM;
        }
        Peer made = new Peer(peers.size() + 1, takeHand(), starts);
        setTimer(made);
        peers.add(made);
        return made.number;
    }

    public int start(int peer) {
        Peer p = peerAt(peer);
        if (p == null) {
            return NO_SUCH;
        }
        if (p.state != PEER_CLOSED) {
            return NOT_NOW;
        }
        return startOwn(p);
    }

    public int accept() {
        Connection line = leastClosed();
        if (line == null) {
            return NO_ROOM;
        }
        line.giveAnew(LINE_OPEN);
        return line.number;
    }

    public int connected(int connection, boolean on) {
        Connection line = connectionAt(connection);
        if (line == null || line.state == LINE_CLOSED) {
            return NO_SUCH;
        }
        if (line.state == LINE_OPEN) {
            return NOT_NOW;
        }
        if (on) {
            ownIsOpen(line);
        } else {
            closeAsGone(line);
        }
        return 1;
    }

    public int feed(int connection, long a, long b, long c, long d, int n) {
        Connection line = connectionAt(connection);
        if (line == null || line.state != LINE_OPEN) {
            return NO_SUCH;
        }
        if (n < 1 || n > FEED_MOST) {
            return OUTSIDE;
        }
        int done = 0;
        for (int i = 0; i < n && line.state == LINE_OPEN; i++) {
            long part = i < 8 ? a : i < 16 ? b : i < 24 ? c : d;
            line.add((byte) (part >>> (56 - 8 * (i & 7))));
            if (line.breaksOff()) {
                closeAsGone(line);
            } else if (line.isWhole()) {
                done++;
                doMessage(line);
            }
        }
        return done;
    }

    public int gone(int connection) {
        Connection line = connectionAt(connection);
        if (line == null || line.state == LINE_CLOSED) {
            return NO_SUCH;
        }
        closeAsGone(line);
        return 1;
    }

    public int stop(int peer, int cause) {
        Peer p = peerAt(peer);
        if (p == null) {
            return NO_SUCH;
        }
        if (cause < 0 || cause > 2) {
            return OUTSIDE;
        }
        if (!p.isOpen()) {
            return NOT_NOW;
        }
        sendEnding(p, cause);
        leaveOpen(p, PEER_ENDING);
        return 1;
    }

    public int tick(int t) {
        if (t < now || (long) t - now > TICK_SECONDS) {
            return OUTSIDE;
        }
        int done = 0;
        // Seconds at which nothing is due change nothing, so they are passed in one step.
        while (now < t) {
            now = Math.min(t, Math.max(now + 1, nextDue()));
            done += doSecond();
        }
        return done;
    }

    public int clock() {
        return now;
    }

    public int take(int connection) {
        Connection line = connectionAt(connection);
        return line == null ? NO_SUCH : line.takeOctet();
    }

    public int waiting(int connection) {
        Connection line = connectionAt(connection);
        return line == null ? NO_SUCH : line.outCount;
    }

    public int connection(int connection, int what) {
        Connection line = connectionAt(connection);
        if (line == null) {
            return NO_SUCH;
        }
        switch (what) {
            case 0:
                return line.state;
            case 1:
                return line.peer == null ? 0 : line.peer.number;
            case 2:
                return line.side;
            case 3:
                return line.inCount;
            default:
                return OUTSIDE;
        }
    }

    public int state(int peer, int what) {
        Peer p = peerAt(peer);
        if (p == null) {
            return NO_SUCH;
        }
        switch (what) {
            case 0:
                return p.state;
            case 1:
                return p.own == null ? 0 : p.own.number;
            case 2:
                return p.came == null ? 0 : p.came.number;
            case 3:
                return p.status;
            case 4:
                return p.awaited ? 1 : 0;
            case 5:
                return p.timer;
            case 6:
                return p.givenOver;
            case 7:
                return p.answers;
            default:
                return OUTSIDE;
        }
    }

    public int account(long number, long balance) {
        if (number < 1 || number > NUMBER_MOST || balance < 0 || balance > UNITS_MOST) {
            return OUTSIDE;
        }
        if (ledger.accountNumbered(number) != null) {
            return NOT_NOW;
        }
        if (ledger.accounts.size() >= ACCOUNTS_MOST) {
            return NO_ROOM;
        }
        ledger.accounts.add(new Account(number, balance));
        return ledger.accounts.size();
    }

    public long balance(long number, int what) {
        Account account = ledger.accountNumbered(number);
        if (account == null) {
            return NO_SUCH;
        }
        switch (what) {
            case 0:
                return account.balance;
            case 1:
                return account.reserved;
            case 2:
                return account.charged;
            default:
                return OUTSIDE;
        }
    }

    public int sessions() {
        return ledger.sessions.size();
    }

    public int session(int k, int what) {
        Session session = ledger.sessionAt(k);
        if (session == null) {
            return NO_SUCH;
        }
        switch (what) {
            case 0:
                return session.name.length;
            case 1:
                return (int) session.count;
            case 2:
                return session.peer.number;
            case 3:
                return session.ends;
            default:
                return OUTSIDE;
        }
    }

    public long granted(int k) {
        Session session = ledger.sessionAt(k);
        return session == null ? NO_SUCH : session.grant;
    }

    public int ask(int k) {
        Session session = ledger.sessionAt(k);
        if (session == null) {
            return NO_SUCH;
        }
        Peer p = session.peer.isUsable() ? session.peer : leastUsable();
        if (p == null) {
            return NOT_NOW;
        }
        if (asks.size() >= ASKS_MOST) {
            return NO_ROOM;
        }
        Ask made = new Ask(draftAsk(session));
        asks.add(made);
        sendAsk(made, p);
        return asks.size() - 1;
    }

    public int asked(int i, int what) {
        if (i < 0 || i >= asks.size()) {
            return NO_SUCH;
        }
        Ask ask = asks.get(i);
        switch (what) {
            case 0:
                return ask.result;
            case 1:
                return ask.peer == null ? 0 : ask.peer.number;
            case 2:
                return ask.sent;
            case 3:
                return ask.hop;
            case 4:
                return ask.end;
            default:
                return OUTSIDE;
        }
    }

    public int kept() {
        forgetOldAnswers();
        return keptAnswers.size();
    }

    public int lost() {
        int all = passedOver;
        for (int i = 0; i < connections.length; i++) {
            all += connections[i].noRoom;
        }
        return all;
    }

    // Names and numbers.

    private static boolean isOfNames(int octet) {
        return octet >= 'a' && octet <= 'z' || octet >= '0' && octet <= '9' || octet == '.' || octet == '-';
    }

    private byte[] takeHand() {
        int count = Math.min(Math.max(handCount, 0), hand.length);
        handCount = 0;
        return Arrays.copyOf(hand, count);
    }

    private boolean isHand(byte[] name) {
        if (name.length != handCount || handCount > hand.length) {
            return false;
        }
        for (int i = 0; i < name.length; i++) {
            if (name[i] != hand[i]) {
                return false;
            }
        }
        return true;
    }

    private boolean isHandOfPeer() {
        for (int i = 0; i < peers.size(); i++) {
            if (isHand(peers.get(i).host)) {
                return true;
            }
        }
        return false;
    }

    private boolean isNodeLaterThan(byte[] name) {
        int both = Math.min(host.length, name.length);
        for (int i = 0; i < both; i++) {
            if (host[i] != name[i]) {
                return host[i] > name[i];
            }
        }
        return host.length > name.length;
    }

    private Peer peerAt(int number) {
        return number < 1 || number > peers.size() ? null : peers.get(number - 1);
    }

    private Connection connectionAt(int number) {
        return number < 1 || number > connections.length ? null : connections[number - 1];
    }

    private Connection leastClosed() {
        for (int i = 0; i < connections.length; i++) {
            if (connections[i].state == LINE_CLOSED) {
                return connections[i];
            }
        }
        return null;
    }

    // The states of peers.

    private void enter(Peer p, int state) {
        boolean untimed = state == PEER_CLOSED || state == PEER_OPEN_CAME || state == PEER_OPEN_OWN;
        p.state = state;
        p.limit = untimed ? NEVER : now + STATE_SECONDS;
    }

    private void setTimer(Peer p) {
        p.timer = now + TIMER_SECONDS;
    }

    private int startOwn(Peer p) {
        Connection line = leastClosed();
        if (line == null) {
            return NO_ROOM;
        }
        line.giveAnew(LINE_ASKED);
        line.peer = p;
        line.side = SIDE_OWN;
        p.own = line;
        enter(p, PEER_WAITING);
        return line.number;
    }

    private void ownIsOpen(Connection line) {
        line.state = LINE_OPEN;
        Peer p = line.peer;
        if (p == null) {
            return;
        }
        sendOpening(p, line);
        if (p.state == PEER_BOTH) {
            choose(p);
        } else {
            enter(p, PEER_ASKING);
        }
    }

    /** The CHOICE, which both sides make alike, so that just one of two connections stays. */
    private void choose(Peer p) {
        if (isNodeLaterThan(p.host)) {
            p.dropOwn();
            openByCame(p);
        } else {
            enter(p, PEER_CHOOSING);
        }
    }

    private void openByCame(Peer p) {
        draft.begin(p.heldPassed, OPENING, 0, p.heldHop, p.heldEnd);
        draft.number(RESULT, DONE);
        draft.origin();
        draft.introduction();
        if (p.came != null) {
            p.came.send(draft.words, draft.finish());
        }
        becomeOpen(p, PEER_OPEN_CAME);
    }

    private void becomeOpen(Peer p, int state) {
        enter(p, state);
        if (p.status == NEW) {
            p.status = GOOD;
            setTimer(p);
        } else {
            p.status = BACK;
            p.answers = 0;
            sendWatch(p);
        }
    }

    private void leaveOpen(Peer p, int state) {
        enter(p, state);
        p.status = DOWN;
        p.awaited = false;
        setTimer(p);
        giveOver(p);
    }

    private void closeAsGone(Connection line) {
        if (line == null) {
            return;
        }
        Peer p = line.peer;
        int side = line.side;
        line.close();
        if (p == null) {
            return;
        }
        if (side == SIDE_OWN) {
            p.own = null;
        } else {
            p.came = null;
        }
        if (p.isOpen()) {
            leaveOpen(p, PEER_CLOSED);
        } else if (p.state != PEER_BOTH && p.state != PEER_CHOOSING) {
            enter(p, PEER_CLOSED);
        } else if (side == SIDE_OWN) {
            openByCame(p);
        } else {
            enter(p, p.state == PEER_BOTH ? PEER_WAITING : PEER_ASKING);
        }
    }

    // The clock.

    private int nextDue() {
        int next = ledger.nextEnd();
        for (int i = 0; i < peers.size(); i++) {
            Peer p = peers.get(i);
            next = Math.min(next, Math.min(p.limit, p.timer));
        }
        return next;
    }

    private int doSecond() {
        int done = 0;
        for (int i = 0; i < peers.size(); i++) {
            Peer p = peers.get(i);
            if (p.limit <= now) {
                p.dropOwn();
                p.dropCame();
                enter(p, PEER_CLOSED);
                done++;
            }
            if (p.timer <= now) {
                doTimer(p);
                done++;
            }
        }
        return done + ledger.endDue(now);
    }

    private void doTimer(Peer p) {
        switch (p.status) {
            case GOOD:
                if (p.awaited) {
                    p.status = SILENT;
                    setTimer(p);
                    giveOver(p);
                } else {
                    sendWatch(p);
                }
                break;
            case SILENT:
                closeAsGone(p.line());
                break;
            case BACK:
                if (p.awaited) {
                    closeAsGone(p.line());
                } else {
                    sendWatch(p);
                }
                break;
            default:
                setTimer(p);
                if (p.starts && p.state == PEER_CLOSED) {
                    startOwn(p);
                }
                break;
        }
    }

    // What the NODE asks for.

    private void sendOpening(Peer p, Connection line) {
        p.openingHop = ++lastHop;
        draft.begin(REQUEST, OPENING, 0, lastHop, lastHop);
        draft.origin();
        draft.introduction();
        line.send(draft.words, draft.finish());
    }

    private void sendWatch(Peer p) {
        p.watchHop = ++lastHop;
        p.awaited = true;
        setTimer(p);
        draft.begin(REQUEST, WATCH, 0, lastHop, lastHop);
        draft.origin();
        draft.number(STATE, 1);
        Connection line = p.line();
        if (line != null) {
            line.send(draft.words, draft.finish());
        }
    }

    private void sendEnding(Peer p, int cause) {
        p.endingHop = ++lastHop;
        p.endingSent = true;
        draft.begin(REQUEST, ENDING, 0, lastHop, lastHop);
        draft.origin();
        draft.number(CAUSE, cause);
        Connection line = p.line();
        if (line != null) {
            line.send(draft.words, draft.finish());
        }
    }

    /** All of an ASK but for HOP and END, which its sending gives it. */
    private int[] draftAsk(Session session) {
        draft.begin(REQUEST | PASSED, ASKING, CREDIT_APPLICATION, 0, 0);
        draft.text(SESSION, session.name, 0, session.name.length);
        draft.origin();
        draft.text(TO_REALM, session.realm, 0, session.realm.length);
        draft.text(TO_HOST, session.host, 0, session.host.length);
        draft.number(AUTH, CREDIT_APPLICATION);
        draft.number(KIND, 0);
        return draft.copy();
    }

    private void sendAsk(Ask ask, Peer p) {
        ask.setSending(p, ++lastHop);
        Connection line = p.line();
        if (line != null) {
            line.send(ask.words, ask.words.length);
        }
    }

    private Peer leastUsable() {
        for (int i = 0; i < peers.size(); i++) {
            if (peers.get(i).isUsable()) {
                return peers.get(i);
            }
        }
        return null;
    }

    private void giveOver(Peer p) {
        p.givenOver++;
        Peer other = leastUsable();
        for (int i = 0; i < asks.size(); i++) {
            Ask ask = asks.get(i);
            if (ask.peer != p || ask.result != 0) {
                continue;
            }
            if (other != null) {
                sendAsk(ask, other);
            } else if (p.status != SILENT) {
                ask.result = UNDELIVERED;
            }
        }
    }

    // What comes.

    private void doMessage(Connection line) {
        message.read(line.in, line.inCount);
        line.inCount = 0;
        Peer p = line.peer;
        if (p == null) {
            onStrange(line);
        } else if (p.isOpen()) {
            if (hasMoreThanWatch(p)) {
                onOpen(p, line);
            }
        } else if (p.state == PEER_ENDING) {
            onEnding(p, line);
        } else if (line.side == SIDE_OWN) {
            onOwn(p, line);
        } else {
            passedOver++;
        }
    }

    private void onStrange(Connection line) {
        boolean request = message.isRequest();
        if (request && message.wrong != 0) {
            answer(line, message.wrong);
            line.close();
            return;
        }
        if (!request || message.command() != OPENING) {
            passedOver++;
            line.close();
            return;
        }
        Peer p = peerOfMessage();
        int refusal = refusalOfOpening(p);
        if (p == null || refusal != 0) {
            answer(line, refusal);
            line.close();
            return;
        }
        line.peer = p;
        line.side = SIDE_CAME;
        p.came = line;
        p.holdOpening(message);
        if (p.state == PEER_CLOSED) {
            openByCame(p);
        } else if (p.state == PEER_WAITING) {
            enter(p, PEER_BOTH);
        } else {
            choose(p);
        }
    }

    private Peer peerOfMessage() {
        int at = message.find(HOST, HEAD, message.length);
        for (int i = 0; i < peers.size(); i++) {
            if (message.isText(at, peers.get(i).host)) {
                return peers.get(i);
            }
        }
        return null;
    }

    private int refusalOfOpening(Peer p) {
        if (p == null) {
            return PEER_UNKNOWN;
        }
        if (!message.hasRightAuth()) {
            return AUTH_WRONG;
        }
        return p.state > PEER_ASKING ? CAME_TOO_MANY : 0;
    }

    /** On the OWN connection, before it is agreed that it is the one to be used. */
    private void onOwn(Peer p, Connection line) {
        if (message.isAnswerTo(OPENING, p.openingHop) && message.numberOf(RESULT) == DONE
                && message.isText(message.find(HOST, HEAD, message.length), p.host)) {
            p.dropCame();
            becomeOpen(p, PEER_OPEN_OWN);
        } else {
            passedOver++;
            closeAsGone(line);
        }
    }

    private void onEnding(Peer p, Connection line) {
        if (p.endingSent && message.isAnswerTo(ENDING, p.endingHop)) {
            closeAsGone(line);
        } else {
            passedOver++;
        }
    }

    /** What a message in an open state tells of its PEER; whether there is more to be done with it. */
    private boolean hasMoreThanWatch(Peer p) {
        boolean answers = p.awaited && message.isAnswerTo(WATCH, p.watchHop);
        if (answers) {
            p.awaited = false;
        }
        if (p.status != BACK) {
            p.status = GOOD;
            setTimer(p);
            return !answers;
        }
        if (answers) {
            p.answers++;
            p.status = p.answers >= BACK_ANSWERS ? GOOD : BACK;
            return false;
        }
        if (message.isRequest() && (message.command() == WATCH || message.command() == ENDING)) {
            return true;
        }
        passedOver++;
        return false;
    }

    private void onOpen(Peer p, Connection line) {
        if (!message.isRequest()) {
            onAskAnswer(p);
        } else if (message.wrong != 0) {
            answer(line, message.wrong);
        } else if (message.command() == OPENING) {
            answer(line, UNABLE);
        } else if (message.command() == WATCH) {
            answer(line, DONE);
        } else if (message.command() == ENDING) {
            answer(line, DONE);
            p.endingSent = false;
            leaveOpen(p, PEER_ENDING);
        } else {
            onCredit(p, line);
        }
    }

    private void onAskAnswer(Peer p) {
        for (int i = 0; i < asks.size(); i++) {
            Ask ask = asks.get(i);
            if (ask.peer == p && ask.result == 0 && message.isAnswerTo(ASKING, ask.hop)) {
                int result = message.numberOf(RESULT);
                ask.result = result == 0 ? 1 : result;
                return;
            }
        }
        passedOver++;
    }

    private void onCredit(Peer p, Connection line) {
        KeptAnswer before = keptAnswerOfMessage();
        if (before != null) {
            before.setHop(message.hop());
            line.send(before.words, before.words.length);
            return;
        }
        Credit credit = new Credit(message, p, now);
        beginAnswer(ledger.judge(credit));
        draft.number(AUTH, CREDIT_APPLICATION);
        draft.number(TYPE, (int) credit.type);
        draft.number(COUNT, (int) credit.count);
        if (credit.granted != NONE) {
            draft.grant(credit.granted);
        }
        if (credit.enough != NONE) {
            draft.number(ENOUGH, (int) credit.enough);
        }
        line.send(draft.words, draft.finish());
        keep(new KeptAnswer(credit.host, message.end(), now, draft.copy()));
    }

    private KeptAnswer keptAnswerOfMessage() {
        forgetOldAnswers();
        int at = message.find(HOST, HEAD, message.length);
        int end = message.end();
        for (int i = 0; i < keptAnswers.size(); i++) {
            KeptAnswer one = keptAnswers.get(i);
            if (one.end == end && message.isText(at, one.host)) {
                return one;
            }
        }
        return null;
    }

    private void keep(KeptAnswer one) {
        if (keptAnswers.size() >= KEPT_MOST) {
            keptAnswers.remove(0);
        }
        keptAnswers.add(one);
    }

    private void forgetOldAnswers() {
        for (int n = keptAnswers.size(); n > 0; n--) {
            if (now - keptAnswers.get(0).time < KEPT_SECONDS) {
                return;
            }
            keptAnswers.remove(0);
        }
    }

    // Answers.

    private void beginAnswer(int result) {
        int fault = result >= 3000 && result <= 3999 ? FAULT : 0;
        int command = message.command();
        draft.begin(message.flags() & PASSED | fault, command, message.application(), message.hop(), message.end());
        if (command == CREDIT && message.sessionAt != 0) {
            draft.text(SESSION, message.octets, message.sessionAt + ATTRIBUTE_HEAD, message.dataSize(message.sessionAt));
        }
        draft.number(RESULT, result);
        draft.origin();
    }

    private void answer(Connection line, int result) {
        beginAnswer(result);
        if (message.command() == WATCH && result == DONE) {
            draft.number(STATE, 1);
        }
        if (message.namesWrong) {
            draft.failed(message.wrongCode);
        }
        line.send(draft.words, draft.finish());
    }

    /** A CONNECTION: octets of a message that comes, and octets that wait to be taken. */
    private static final class Connection {
        final int number;
        int state = LINE_CLOSED;
        Peer peer;
        int side = SIDE_NONE;
        int inCount;
        int outCount;
        int noRoom;
        private int outFirst;
        /** Rows are made when the number is first given: most runs use few of the connections. */
        byte[] in = new byte[0];
        private byte[] out = new byte[0];

        Connection(int number) {
            this.number = number;
        }

        void giveAnew(int newState) {
            if (out.length == 0) {
                in = new byte[MESSAGE_MOST];
                out = new byte[WAITING_MOST];
            }
            state = newState;
            peer = null;
            side = SIDE_NONE;
            inCount = 0;
            outFirst = 0;
            outCount = 0;
        }

        /** What waits stays, for it may still be taken. */
        void close() {
            state = LINE_CLOSED;
            peer = null;
            side = SIDE_NONE;
            inCount = 0;
        }

        void add(byte octet) {
            if (inCount >= 0 && inCount < in.length) {
                in[inCount] = octet;
                inCount++;
            }
        }

        private int messageLength() {
            return in.length < 4 ? 0 : (in[1] & 255) << 16 | (in[2] & 255) << 8 | in[3] & 255;
        }

        boolean breaksOff() {
            int length = messageLength();
            return inCount == 4 && (length < HEAD || length > MESSAGE_MOST || (length & 3) != 0);
        }

        boolean isWhole() {
            return inCount >= HEAD && inCount == messageLength();
        }

        void send(int[] words, int count) {
            if (count > words.length || outCount + 4 * count > out.length) {
                noRoom++;
                return;
            }
            int at = outFirst + outCount;
            for (int i = 0; i < 4 * count; i++) {
                at = at >= out.length ? at - out.length : at;
                if (at >= 0 && at < out.length) {
                    out[at] = (byte) (words[i >> 2] >>> (24 - 8 * (i & 3)));
                }
                at++;
            }
            outCount += 4 * count;
        }

        int takeOctet() {
            if (outCount <= 0 || outFirst < 0 || outFirst >= out.length) {
                return OUTSIDE;
            }
            int octet = out[outFirst] & 255;
            outFirst = outFirst + 1 == out.length ? 0 : outFirst + 1;
            outCount--;
            return octet;
        }
    }

    private static final class Peer {
        final int number;
        final byte[] host;
        final boolean starts;
        int state = PEER_CLOSED;
        /** When the seconds of its state are over. */
        int limit = NEVER;
        Connection own;
        Connection came;
        int status = NEW;
        boolean awaited;
        int timer;
        int givenOver;
        int answers;
        int openingHop;
        int watchHop;
        int endingHop;
        boolean endingSent;
        /** Of the OPENING on the CAME connection, which may be answered later. */
        int heldPassed;
        int heldHop;
        int heldEnd;

        Peer(int number, byte[] host, boolean starts) {
            this.number = number;
            this.host = host;
            this.starts = starts;
        }

        boolean isOpen() {
            return state == PEER_OPEN_CAME || state == PEER_OPEN_OWN;
        }

        boolean isUsable() {
            return status == GOOD && (state == PEER_OPEN_CAME || state == PEER_OPEN_OWN);
        }

        /** The connection that is used when it is open or ending: then it has just one. */
        Connection line() {
            return own != null ? own : came;
        }

        void dropOwn() {
            if (own != null) {
                own.close();
                own = null;
            }
        }

        void dropCame() {
            if (came != null) {
                came.close();
                came = null;
            }
        }

        void holdOpening(Message opening) {
            heldPassed = opening.flags() & PASSED;
            heldHop = opening.hop();
            heldEnd = opening.end();
        }
    }

    /** A message that came, and what is WRONG in it. Positions of attributes are 0 for none. */
    private static final class Message {
        byte[] octets = new byte[0];
        int length;
        /** The RESULT by which it is WRONG, or 0. */
        int wrong;
        /** Whether an attribute is to be named as WRONG, and its CODE. */
        boolean namesWrong;
        int wrongCode;
        /** The first SESSION of its own that was gone through. */
        int sessionAt;

        void read(byte[] from, int count) {
            octets = from;
            length = Math.min(count, from.length);
            namesWrong = false;
            wrongCode = 0;
            sessionAt = 0;
            wrong = wrongInHead();
            if (wrong == 0) {
                readAll(HEAD, length, 0);
            }
            if (wrong == 0) {
                lookForMusts();
            }
        }

        private int wrongInHead() {
            if (octet(0) != VERSION) {
                return VERSION_WRONG;
            }
            int right = REQUEST | PASSED | FAULT | AGAIN;
            if (isRequest()) {
                int[] musts = mustsOf(command());
                if (musts.length == 0) {
                    return COMMAND_UNKNOWN;
                }
                if (application() != (command() == CREDIT ? CREDIT_APPLICATION : 0)) {
                    return APPLICATION_WRONG;
                }
                right = REQUEST | PASSED | AGAIN;
            }
            return (flags() & ~right) != 0 ? MESSAGE_FLAGS_WRONG : 0;
        }

        private static int[] mustsOf(int command) {
            switch (command) {
                case OPENING:
                    return OPENING_MUSTS;
                case WATCH:
                    return WATCH_MUSTS;
                case ENDING:
                    return ENDING_MUSTS;
                case CREDIT:
                    return CREDIT_MUSTS;
                default:
                    return NO_MUSTS;
            }
        }

        private void readAll(int from, int end, int depth) {
            for (int at = from; at < end && wrong == 0; at += padded(word(at + 4) & SIZE_MASK)) {
                readOne(at, end, depth);
            }
        }

        private void readOne(int at, int end, int depth) {
            if (end - at < ATTRIBUTE_HEAD) {
                nameWrong(LENGTH_WRONG, 0);
                return;
            }
            int code = word(at);
            int flags = octet(at + 4);
            int size = word(at + 4) & SIZE_MASK;
            boolean maker = (flags & MAKER) != 0;
            if (size < (maker ? ATTRIBUTE_HEAD + 4 : ATTRIBUTE_HEAD) || size > end - at) {
                nameWrong(LENGTH_WRONG, code);
                return;
            }
            if ((flags & ~(MAKER | MUST | KEPT_FLAG)) != 0) {
                nameWrong(ATTRIBUTE_FLAGS_WRONG, code);
                return;
            }
            int kind = maker ? UNKNOWN_KIND : kindOf(code);
            if (kind == UNKNOWN_KIND) {
                if ((flags & MUST) != 0) {
                    nameWrong(ATTRIBUTE_UNKNOWN, code);
                }
                return;
            }
            if (!fits(kind, size - ATTRIBUTE_HEAD) || kind == GROUP_KIND && depth >= GROUPS_DEEP) {
                nameWrong(LENGTH_WRONG, code);
            } else if (kind == GROUP_KIND) {
                readAll(at + ATTRIBUTE_HEAD, at + size, depth + 1);
            } else if (code == SESSION && depth == 0 && sessionAt == 0) {
                sessionAt = at;
            }
        }

        private void nameWrong(int result, int code) {
            wrong = result;
            namesWrong = true;
            wrongCode = code;
        }

        private static int kindOf(int code) {
            switch (code) {
                case SESSION: case HOST: case REALM: case TO_REALM: case TO_HOST: case PRODUCT: case WHO:
                    return TEXT_KIND;
                case RESULT: case AUTH: case VENDOR: case STATE: case CAUSE: case KIND:
                case TYPE: case COUNT: case ACTION: case SORT: case TIME: case ENOUGH:
                    return NUMBER_KIND;
                case UNITS:
                    return UNITS_KIND;
                case ADDRESS:
                    return ADDRESS_KIND;
                case SUBSCRIBER: case WANTED: case GRANTED: case USED: case FAILED:
                    return GROUP_KIND;
                default:
                    return UNKNOWN_KIND;
            }
        }

        private static boolean fits(int kind, int size) {
            switch (kind) {
                case TEXT_KIND:
                    return size >= 1 && size <= NAME_MOST;
                case NUMBER_KIND:
                    return size == 4;
                case UNITS_KIND:
                    return size == 8;
                case ADDRESS_KIND:
                    return size == 6;
                default:
                    return true;
            }
        }

        private void lookForMusts() {
            boolean request = isRequest();
            int[] musts = request ? mustsOf(command()) : ANSWER_MUSTS;
            for (int code : musts) {
                if (find(code, HEAD, length) == 0) {
                    nameWrong(ATTRIBUTE_MISSING, code);
                    return;
                }
            }
            for (int code : musts) {
                if (request && code != AUTH && isTwice(code)) {
                    nameWrong(ATTRIBUTE_TWICE, code);
                    return;
                }
            }
        }

        private boolean isTwice(int code) {
            int first = find(code, HEAD, length);
            return first != 0 && find(code, first + padded(word(first + 4) & SIZE_MASK), length) != 0;
        }

        /** The octets up to the next attribute: never fewer than a head has, so that a walk ends. */
        private static int padded(int size) {
            return size < ATTRIBUTE_HEAD ? ATTRIBUTE_HEAD : (size + 3) & ~3;
        }

        private int octet(int at) {
            return at < 0 || at >= octets.length ? 0 : octets[at] & 255;
        }

        private int word(int at) {
            if (at < 0 || at > octets.length - 4) {
                return 0;
            }
            return (octets[at] & 255) << 24 | (octets[at + 1] & 255) << 16
                    | (octets[at + 2] & 255) << 8 | octets[at + 3] & 255;
        }

        int flags() {
            return octet(4);
        }

        int command() {
            return word(4) & SIZE_MASK;
        }

        int application() {
            return word(8);
        }

        int hop() {
            return word(12);
        }

        int end() {
            return word(16);
        }

        boolean isRequest() {
            return (octet(4) & REQUEST) != 0;
        }

        boolean isAnswerTo(int command, int hop) {
            return wrong == 0 && !isRequest() && command() == command && hop() == hop;
        }

        /** The first attribute with a CODE among those from one position to another, all of them right. */
        int find(int code, int from, int end) {
            for (int at = from; at < end; at += padded(word(at + 4) & SIZE_MASK)) {
                if (word(at) == code && (octet(at + 4) & MAKER) == 0) {
                    return at;
                }
            }
            return 0;
        }

        /** The first attribute with a CODE among the own ones of the first such group. */
        int findIn(int group, int code) {
            int at = find(group, HEAD, length);
            return at == 0 ? 0 : find(code, at + ATTRIBUTE_HEAD, at + (word(at + 4) & SIZE_MASK));
        }

        int dataSize(int at) {
            return (word(at + 4) & SIZE_MASK) - ATTRIBUTE_HEAD;
        }

        boolean isText(int at, byte[] text) {
            if (at == 0 || dataSize(at) != text.length) {
                return false;
            }
            for (int i = 0; i < text.length; i++) {
                if (octet(at + ATTRIBUTE_HEAD + i) != (text[i] & 255)) {
                    return false;
                }
            }
            return true;
        }

        byte[] textOf(int code) {
            int at = find(code, HEAD, length);
            int from = at + ATTRIBUTE_HEAD;
            int size = at == 0 ? 0 : dataSize(at);
            if (size <= 0 || from < 0 || from > octets.length - size) {
                return new byte[0];
            }
            return Arrays.copyOfRange(octets, from, from + size);
        }

        int numberOf(int code) {
            int at = find(code, HEAD, length);
            return at == 0 ? 0 : word(at + ATTRIBUTE_HEAD);
        }

        long longOf(int code, long absent) {
            int at = find(code, HEAD, length);
            return at == 0 ? absent : word(at + ATTRIBUTE_HEAD) & WORD_MASK;
        }

        long unitsAt(int at, long absent) {
            if (at == 0) {
                return absent;
            }
            return (long) word(at + ATTRIBUTE_HEAD) << 32 | word(at + ATTRIBUTE_HEAD + 4) & WORD_MASK;
        }

        /** The number that a WHO tells, or 0, which is no ACCOUNT's. */
        long accountAt(int at) {
            int size = at == 0 ? 0 : dataSize(at);
            if (size > NUMBER_DIGITS) {
                return 0;
            }
            long number = 0;
            for (int i = 0; i < size; i++) {
                int digit = octet(at + ATTRIBUTE_HEAD + i) - '0';
                if (digit < 0 || digit > 9) {
                    return 0;
                }
                number = number * 10 + digit;
            }
            return number;
        }

        boolean hasRightAuth() {
            for (int at = HEAD; at < length; at += padded(word(at + 4) & SIZE_MASK)) {
                int value = word(at + ATTRIBUTE_HEAD);
                if (word(at) == AUTH && (octet(at + 4) & MAKER) == 0 && (value == CREDIT_APPLICATION || value == -1)) {
                    return true;
                }
            }
            return false;
        }
    }

    /** A message of the NODE's as it is made, in words of four octets. */
    private static final class Draft {
        /** An ASK with the longest texts has 62. */
        final int[] words = new int[64];
        private int count;
        private int[] origin = new int[0];

        /** HOST and REALM stand in every message, so they are laid out once. */
        void setOrigin(byte[] host) {
            count = 0;
            text(HOST, host, 0, host.length);
            number(REALM, HOME);
            origin = Arrays.copyOf(words, Math.max(0, Math.min(count, words.length)));
        }

        void begin(int flags, int command, int application, int hop, int end) {
            words[0] = VERSION << 24;
            words[1] = flags << 24 | command;
            words[2] = application;
            words[3] = hop;
            words[4] = end;
            count = 5;
        }

        void origin() {
            for (int i = 0; i < origin.length && count >= 0 && count < words.length; i++) {
                words[count] = origin[i];
                count++;
            }
        }

        void number(int code, int value) {
            if (count >= 0 && count + 3 <= words.length) {
                words[count] = code;
                words[count + 1] = MUST << 24 | 12;
                words[count + 2] = value;
                count += 3;
            }
        }

        void text(int code, byte[] from, int start, int size) {
            int more = 2 + (Math.max(0, size) + 3) / 4;
            if (size < 0 || start < 0 || start > from.length - size || count < 0 || count > words.length - more) {
                return;
            }
            words[count] = code;
            words[count + 1] = MUST << 24 | ATTRIBUTE_HEAD + size;
            for (int i = 2; i < more; i++) {
                words[count + i] = 0;
            }
            for (int i = 0; i < size; i++) {
                words[count + 2 + (i >> 2)] |= (from[start + i] & 255) << (24 - 8 * (i & 3));
            }
            count += more;
        }

        /** What an OPENING and its ANSWER tell of the NODE. */
        void introduction() {
            if (count >= 0 && count + 4 <= words.length) {
                words[count] = ADDRESS;
                words[count + 1] = MUST << 24 | 14;
                words[count + 2] = 0x00017F00;
                words[count + 3] = 0x00010000;
                count += 4;
            }
            number(VENDOR, 0);
            number(PRODUCT, PRODUCT_NAME);
            number(AUTH, CREDIT_APPLICATION);
        }

        void grant(long units) {
            if (count >= 0 && count + 6 <= words.length) {
                words[count] = GRANTED;
                words[count + 1] = MUST << 24 | 24;
                words[count + 2] = UNITS;
                words[count + 3] = MUST << 24 | 16;
                words[count + 4] = (int) (units >>> 32);
                words[count + 5] = (int) units;
                count += 6;
            }
            number(TIME, SESSION_SECONDS);
        }

        void failed(int code) {
            if (count >= 0 && count + 4 <= words.length) {
                words[count] = FAILED;
                words[count + 1] = MUST << 24 | 16;
                words[count + 2] = code;
                words[count + 3] = MUST << 24 | ATTRIBUTE_HEAD;
                count += 4;
            }
        }

        /** LENGTH is known only when all is there. Tells how many words there are. */
        int finish() {
            words[0] = VERSION << 24 | 4 * count;
            return count;
        }

        int[] copy() {
            words[0] = VERSION << 24 | 4 * count;
            return Arrays.copyOf(words, Math.max(5, Math.min(count, words.length)));
        }
    }

    private static final class Ask {
        /** The message, so that it is sent again as it was even if its SESSION is no more. */
        final int[] words;
        Peer peer;
        int result;
        int sent;
        int hop;
        int end;

        Ask(int[] words) {
            this.words = words;
        }

        void setSending(Peer by, int newHop) {
            peer = by;
            hop = newHop;
            end = sent == 0 ? newHop : end;
            if (words.length >= 5) {
                words[1] |= sent == 0 ? 0 : AGAIN << 24;
                words[3] = hop;
                words[4] = end;
            }
            sent++;
        }
    }

    private static final class KeptAnswer {
        final byte[] host;
        final int end;
        final int time;
        final int[] words;

        KeptAnswer(byte[] host, int end, int time, int[] words) {
            this.host = host;
            this.end = end;
            this.time = time;
            this.words = words;
        }

        /** Only the HOP is of the CREDIT that came again: all else is as it was answered at first. */
        void setHop(int hop) {
            if (words.length >= 4) {
                words[3] = hop;
            }
        }
    }

    private static final class Account {
        final long number;
        long balance;
        long reserved;
        /** Less what was given back. */
        long charged;

        Account(long number, long balance) {
            this.number = number;
            this.balance = balance;
        }

        long free() {
            return balance - reserved;
        }

        void charge(long units) {
            balance -= units;
            charged += units;
        }
    }

    /** What a CREDIT that is not WRONG asks for, and what its ANSWER tells beside the RESULT. */
    private static final class Credit {
        final byte[] session;
        final byte[] host;
        final byte[] realm;
        final Peer peer;
        final int time;
        final long type;
        final long count;
        final long who;
        final long action;
        final boolean unitsRight;
        /** NONE if they are not there; only if unitsRight. */
        final long wanted;
        final long used;
        long granted = NONE;
        long enough = NONE;

        Credit(Message m, Peer peer, int time) {
            this.peer = peer;
            this.time = time;
            session = m.textOf(SESSION);
            host = m.textOf(HOST);
            realm = m.textOf(REALM);
            type = m.longOf(TYPE, 0);
            count = m.longOf(COUNT, 0);
            who = m.accountAt(m.findIn(SUBSCRIBER, WHO));
            action = m.longOf(ACTION, NONE);
            int wantedAt = m.findIn(WANTED, UNITS);
            int usedAt = m.findIn(USED, UNITS);
            wanted = m.unitsAt(wantedAt, NONE);
            used = m.unitsAt(usedAt, NONE);
            unitsRight = isInRange(m.unitsAt(wantedAt, 0)) && isInRange(m.unitsAt(usedAt, 0));
        }

        private static boolean isInRange(long units) {
            return units >= 0 && units <= UNITS_MOST;
        }

        boolean isRight() {
            boolean typeRight = type >= BEGINS && type <= ONCE;
            return typeRight && unitsRight && (type != ONCE || action >= CHARGE && action <= LOOK);
        }
    }

    private static final class Session {
        final byte[] name;
        final Account account;
        long grant;
        long count;
        byte[] host;
        byte[] realm;
        Peer peer;
        int ends;

        Session(Account account, Credit credit) {
            this.name = credit.session;
            this.account = account;
            follow(credit);
        }

        /** What its last CREDIT tells is the SESSION's from now on. */
        private void follow(Credit credit) {
            count = credit.count;
            host = credit.host;
            realm = credit.realm;
            peer = credit.peer;
            ends = credit.time + SESSION_SECONDS;
        }

        void release() {
            account.reserved -= grant;
            grant = 0;
        }

        void charge(Credit credit) {
            account.charge(Math.min(Math.max(credit.used, 0), grant));
            release();
        }

        void reserve(Credit credit) {
            long wanted = credit.wanted == NONE ? USUAL_GRANT : credit.wanted;
            grant = Math.min(wanted, account.free());
            account.reserved += grant;
            credit.granted = grant;
        }
    }

    /** The ACCOUNTS, and the SESSIONS in the order in which they were made. */
    private static final class Ledger {
        final List<Account> accounts = new ArrayList<>();
        final List<Session> sessions = new ArrayList<>();

        Account accountNumbered(long number) {
            for (int i = 0; i < accounts.size(); i++) {
                if (accounts.get(i).number == number) {
                    return accounts.get(i);
                }
            }
            return null;
        }

        Session sessionAt(int k) {
            return k < 0 || k >= sessions.size() ? null : sessions.get(k);
        }

        private int placeOf(byte[] name) {
            for (int i = 0; i < sessions.size(); i++) {
                if (isSame(sessions.get(i).name, name)) {
                    return i;
                }
            }
            return -1;
        }

        private static boolean isSame(byte[] one, byte[] other) {
            if (one.length != other.length) {
                return false;
            }
            for (int i = 0; i < one.length; i++) {
                if (one[i] != other[i]) {
                    return false;
                }
            }
            return true;
        }

        /** The RESULT of a CREDIT, and all that it does. */
        int judge(Credit credit) {
            if (!credit.isRight()) {
                return VALUE_WRONG;
            }
            if (credit.type == BEGINS) {
                return begin(credit);
            }
            return credit.type == ONCE ? doOnce(credit) : goOn(credit);
        }

        private int begin(Credit credit) {
            Account account = accountNumbered(credit.who);
            if (account == null) {
                return ACCOUNT_UNKNOWN;
            }
            if (placeOf(credit.session) >= 0 || sessions.size() >= SESSIONS_MOST) {
                return UNABLE;
            }
            if (account.free() == 0) {
                return NOTHING_FREE;
            }
            Session made = new Session(account, credit);
            made.reserve(credit);
            sessions.add(made);
            return DONE;
        }

        private int goOn(Credit credit) {
            int k = placeOf(credit.session);
            Session session = sessionAt(k);
            if (session == null) {
                return SESSION_UNKNOWN;
            }
            if (credit.count <= session.count) {
                return UNABLE;
            }
            session.charge(credit);
            if (credit.type == ENDS) {
                sessions.remove(k);
                return DONE;
            }
            session.follow(credit);
            if (session.account.free() == 0) {
                return NOTHING_FREE;
            }
            session.reserve(credit);
            return DONE;
        }

        private int doOnce(Credit credit) {
            Account account = accountNumbered(credit.who);
            if (account == null) {
                return ACCOUNT_UNKNOWN;
            }
            long units = Math.max(credit.wanted, 0);
            if (credit.action == LOOK) {
                credit.enough = units <= account.free() ? 0 : 1;
                return DONE;
            }
            if (credit.action == CHARGE) {
                if (units > account.free()) {
                    return NOTHING_FREE;
                }
                account.charge(units);
                return DONE;
            }
            // The third one, 1, gives back.
            if (account.balance + units > UNITS_MOST) {
                return UNABLE;
            }
            account.charge(-units);
            return DONE;
        }

        int nextEnd() {
            int next = NEVER;
            for (int i = 0; i < sessions.size(); i++) {
                next = Math.min(next, sessions.get(i).ends);
            }
            return next;
        }

        int endDue(int now) {
            int ended = 0;
            int k = 0;
            for (int n = sessions.size(); n > 0 && k < sessions.size(); n--) {
                Session session = sessions.get(k);
                if (session.ends <= now) {
                    session.release();
                    sessions.remove(k);
                    ended++;
                } else {
                    k++;
                }
            }
            return ended;
        }
    }
}
