"""A second prover, written from the document alone and as plainly as it goes, without a thought of
speed or room. make_runs.py takes from it the answers that ReplayRuns.java then asks of ClauseProver.
Clauses are lists of (is it =, left, right); a term is an int, a variable, or (symbol, term, ..)."""
import itertools
import sys

sys.setrecursionlimit(100000)


class Fault(Exception):
    def __init__(s, kind, place):
        s.kind = kind
        s.place = place


class ISE(Exception):
    pass


class IAE(Exception):
    pass


class NSE(Exception):
    pass


class IOOB(Exception):
    pass


LET = 'abcdefghijklmnopqrstuvwxyzABCDEFGHIJKLMNOPQRSTUVWXYZ'
WS = LET + '0123456789_'
SIGNS = ['<=>', '=>', '!=', '.', '(', ')', ',', ':', '~', '!', '?', '&', '|', '=']


def tokens(text):
    """list of (kind, place, word)"""
    toks = []
    i = 0
    n = len(text)
    while True:
        while i < n:
            if text[i] in ' \t\n\r':
                i += 1
            elif text[i] == '%':
                while i < n and text[i] != '\n':
                    i += 1
            else:
                break
        if i >= n:
            toks.append(('end', n, ''))
            return toks
        if text[i] in LET:
            j = i
            while j < n and text[j] in WS:
                j += 1
            w = text[i:j]
            if len(w) > 31:
                toks.append(('bad', i, w))
            elif 'A' <= w[0] <= 'Z':
                toks.append(('var', i, w))
            else:
                toks.append(('name', i, w))
            i = j
            continue
        for s in SIGNS:
            if text.startswith(s, i):
                toks.append((s, i, s))
                i += len(s)
                break
        else:
            toks.append(('bad', i, text[i]))
            i += 1


class Var:
    def __init__(s, word, idx):
        s.word = word
        s.idx = idx
        s.around = None
        s.free = False
        s.witness = None


class Parse:
    def __init__(s, text):
        s.t = tokens(text)
        s.i = 0
        s.names = []
        s.use = {}  # name -> (kind, arity)
        s.vars = []
        s.sentences = []
        while s.kind() != 'end':
            s.sentence()

    def kind(s):
        return s.t[s.i][0]

    def place(s):
        return s.t[s.i][1]

    def over(s):
        return s.i >= 20000 and s.t[s.i][0] != 'end'

    def bad(s):
        raise Fault(3 if s.over() else 1, s.place())

    def check(s):
        if s.over():
            raise Fault(3, s.place())

    def is_(s, k):
        return s.kind() == k and not s.over()

    def eat(s, k):
        if not s.is_(k):
            s.bad()
        s.i += 1

    def sentence(s):
        begin = s.place()
        prove = False
        if s.is_('name') and s.t[s.i][2] == 'prove':
            prove = True
            s.i += 1
        s.free = []
        s.scope = []
        s.mine = []
        f = s.formula(0)
        s.eat('.')
        # the variables around each bound one
        for v, outer in s.mine:
            v.around = list(s.free) + outer
        for k, v in enumerate(s.free):
            v.around = s.free[:k]
        s.sentences.append((begin, prove, f, list(s.free)))

    def deep(s, d):
        if d > 60:
            raise Fault(3, s.place())

    def formula(s, d):
        s.deep(d)
        a = s.implication(d)
        if s.is_('<=>'):
            s.i += 1
            b = s.implication(d)
            return ('<=>', a, b)
        return a

    def implication(s, d):
        s.deep(d)
        a = s.choice(d)
        if s.is_('=>'):
            s.i += 1
            b = s.implication(d + 1)
            return ('=>', a, b)
        return a

    def choice(s, d):
        a = s.joint(d)
        while s.is_('|'):
            s.i += 1
            a = ('|', a, s.joint(d))
        return a

    def joint(s, d):
        a = s.unit(d)
        while s.is_('&'):
            s.i += 1
            a = ('&', a, s.unit(d))
        return a

    def newvar(s, word):
        if len(s.vars) >= 300:
            raise Fault(3, s.place())
        v = Var(word, len(s.vars))
        s.vars.append(v)
        return v

    def unit(s, d):
        s.deep(d)
        if s.is_('~'):
            s.i += 1
            return ('~', s.unit(d + 1))
        if s.is_('!') or s.is_('?'):
            q = s.kind()
            s.i += 1
            bound = []
            if not s.is_('var'):
                s.bad()
            while s.is_('var'):
                v = s.newvar(s.t[s.i][2])
                s.mine.append((v, s.scope + bound))
                bound.append(v)
                s.i += 1
            s.eat(':')
            old = s.scope
            s.scope = s.scope + bound
            f = s.formula(d + 1)
            s.scope = old
            for v in reversed(bound):
                f = (q, v, f)
            return f
        if s.is_('('):
            s.i += 1
            f = s.formula(d + 1)
            s.eat(')')
            return f
        return s.atom(d)

    def settle(s, name, kind, n, place):
        if name in s.use:
            if s.use[name] != (kind, n):
                raise Fault(2, place)
        else:
            s.use[name] = (kind, n)

    def head(s):
        w = s.t[s.i][2]
        if w not in s.names:
            if len(s.names) >= 250:
                raise Fault(3, s.place())
            s.names.append(w)
        s.i += 1
        return w

    def args(s, d):
        if not s.is_('('):
            return ()
        s.i += 1
        a = [s.term(d + 1)]
        while s.is_(','):
            s.i += 1
            a.append(s.term(d + 1))
        s.eat(')')
        return tuple(a)

    def variable(s):
        w = s.t[s.i][2]
        for v in reversed(s.scope):
            if v.word == w:
                s.i += 1
                return v
        for v in s.free:
            if v.word == w:
                s.i += 1
                return v
        v = s.newvar(w)
        v.free = True
        s.free.append(v)
        s.i += 1
        return v

    def term(s, d):
        s.deep(d)
        if s.is_('var'):
            return s.variable()
        if not s.is_('name'):
            s.bad()
        p = s.place()
        w = s.head()
        a = s.args(d)
        s.settle(w, 'f', len(a), p)
        return (w,) + a

    def atom(s, d):
        if s.is_('var'):
            l = s.variable()
            if not (s.is_('=') or s.is_('!=')):
                s.bad()
        elif s.is_('name'):
            p = s.place()
            w = s.head()
            a = s.args(d)
            eq = s.kind() in ('=', '!=')
            s.settle(w, 'f' if eq else 'p', len(a), p)
            l = (w,) + a
            if not eq:
                return ('atom', True, l, ('',))
            if s.over():
                s.bad()
        else:
            s.bad()
        pos = s.kind() == '='
        s.i += 1
        r = s.term(d)
        return ('atom', pos, l, r)


def height(f):
    if f[0] == 'atom':
        return 1
    if f[0] == '~':
        return 1 + height(f[1])
    if f[0] in '!?':
        return 1 + height(f[2])
    return 1 + max(height(f[1]), height(f[2]))


def witnesses(f, pos, acc):
    k = f[0]
    if k == 'atom':
        return
    if k == '~':
        witnesses(f[1], not pos, acc)
    elif k in '!?':
        if (k == '?') == pos:
            acc.add(f[1])
        witnesses(f[2], pos, acc)
    elif k in '&|':
        witnesses(f[1], pos, acc)
        witnesses(f[2], pos, acc)
    elif k == '=>':
        witnesses(f[1], not pos, acc)
        witnesses(f[2], pos, acc)
    else:
        # both ways; avoid the exponential walk by sets
        for p in (True, False):
            witnesses(f[1], p, acc)
            witnesses(f[2], p, acc)


# terms in clauses: int v -> variable; tuple (symbol number, args...)
def weight(t):
    return 1 if isinstance(t, int) else 1 + sum(weight(a) for a in t[1:])


def varsof(t, out=None):
    if out is None:
        out = []
    if isinstance(t, int):
        out.append(t)
    else:
        for a in t[1:]:
            varsof(a, out)
    return out


def greater(s, t):
    if isinstance(s, int):
        return False
    vs = varsof(s)
    vt = varsof(t)
    for v in set(vt):
        if vs.count(v) < vt.count(v):
            return False
    ws, wt = weight(s), weight(t)
    if ws != wt:
        return ws > wt
    if isinstance(t, int):
        return False
    if s[0] != t[0]:
        return s[0] > t[0]
    for a, b in zip(s[1:], t[1:]):
        if a != b:
            return greater(a, b)
    return False


def litgreater(x, y):
    def ms(l):
        return [l[1], l[2]] if l[0] else [l[1], l[1], l[2], l[2]]

    a = ms(x)
    b = ms(y)
    for e in list(a):
        if e in b:
            a.remove(e)
            b.remove(e)
    return len(a) > 0 and all(any(greater(p, q) for p in a) for q in b)


def litweight(l):
    return weight(l[1]) + weight(l[2])


def selected(c):
    best = None
    for i, l in enumerate(c):
        if not l[0] and (best is None or litweight(l) > litweight(c[best])):
            best = i
    return best


def eligible(c):
    s = selected(c)
    if s is not None:
        return [s]
    return [i for i in range(len(c)) if not any(litgreater(c[j], c[i]) for j in range(len(c)) if j != i)]


def usable(l):
    r = []
    if not greater(l[2], l[1]):
        r.append((1, 2))
    if not greater(l[1], l[2]):
        r.append((2, 1))
    return r


def bounds_ok(c):
    if len(c) > 8:
        return False
    if sum(litweight(l) for l in c) > 100:
        return False
    vs = set()
    for l in c:
        vs |= set(varsof(l[1]))
        vs |= set(varsof(l[2]))
    return len(vs) <= 6


def reduced(c):
    out = []
    for l in c:
        if not l[0] and l[1] == l[2]:
            continue
        if any(m[0] == l[0] and ((m[1], m[2]) == (l[1], l[2]) or (m[2], m[1]) == (l[1], l[2])) for m in out):
            continue
        out.append(l)
    m = {}

    def ren(t):
        if isinstance(t, int):
            return m.setdefault(t, len(m))
        return (t[0],) + tuple(ren(a) for a in t[1:])

    return [(l[0], ren(l[1]), ren(l[2])) for l in out], len(m)


def tautology(c):
    for l in c:
        if l[0] and l[1] == l[2]:
            return True
        for k in c:
            if l[0] and not k[0] and sorted([repr(l[1]), repr(l[2])]) == sorted([repr(k[1]), repr(k[2])]):
                return True
    return False


def shift(t, n):
    if isinstance(t, int):
        return t + n
    return (t[0],) + tuple(shift(a, n) for a in t[1:])


class Prover:
    def __init__(s):
        s.tape = []
        s.out = []
        s.reset()
        s.f = (0, 0)

    def reset(s):
        s.clauses = []
        s.text = 0
        s.syms = [('', 0, 'p', False)]
        s.state = 0
        s.c = dict.fromkeys(['steps', 'inf', 'drop', 'sub', 'rew', 'taut'], 0)
        s.pf = []

    def feed(s, *a):
        if len(s.tape) + 20 > 65536:
            raise ISE()
        for x in a:
            s.tape += list((x & 0xFFFFFFFF).to_bytes(4, 'big'))
        return len(s.tape)

    def end(s, n):
        if not 0 <= n <= len(s.tape):
            raise IAE()
        s.tape = s.tape[:n]
        return n

    def read(s):
        s.reset()
        text = ''.join(map(chr, s.tape))
        s.tape = []
        try:
            s.load(text)
            s.f = (0, 0)
        except Fault as e:
            s.reset()
            s.f = (e.kind, e.place)
            return -1
        s.text = len(s.clauses)
        return s.text

    def load(s, text):
        p = Parse(text)
        for w in p.names:
            k, n = p.use[w]
            s.syms.append((w, n, k, False))
        num = {w: i + 1 for i, w in enumerate(p.names)}
        num[''] = 0
        acc = set()
        for begin, prove, f, free in p.sentences:
            if prove:
                acc |= set(free)
            witnesses(f, not prove, acc)
        for v in p.vars:
            if v in acc:
                v.witness = len(s.syms)
                s.syms.append(('w%d' % (len(s.syms) - len(p.names) - 1), len(v.around), 'f', True))
        total = 0
        for begin, prove, f, free in p.sentences:
            if height(f) > 200:
                raise Fault(3, begin)

            class Big(Exception):
                pass

            budget = [0]

            def conv(t, repl):
                budget[0] += 1
                if budget[0] > 100000:
                    raise Big()
                if isinstance(t, Var):
                    if repl[t]:
                        return (t.witness,) + tuple(conv(v, repl) for v in t.around)
                    return t.idx
                return (num[t[0]],) + tuple(conv(a, repl) for a in t[1:])

            def go(f, pos, repl):
                k = f[0]
                if k == 'atom':
                    return [[(f[1] == pos, f[2], f[3], repl)]]
                if k == '~':
                    return go(f[1], not pos, repl)
                if k in '!?':
                    d = dict(repl)
                    d[f[1]] = (k == '?') == pos
                    return go(f[2], pos, d)

                def both(a, pa, b, pb):
                    return lim(go(a, pa, repl) + go(b, pb, repl))

                def either(a, pa, b, pb):
                    x = go(a, pa, repl)
                    y = go(b, pb, repl)
                    if len(x) * len(y) > 300:
                        raise Fault(3, begin)
                    return lim([p + q for p in x for q in y])

                def lim(x):
                    if len(x) > 200 or any(len(c) > 8 for c in x):
                        raise Fault(3, begin)
                    return x

                F, G = f[1], f[2]
                if k == '&':
                    return both(F, True, G, True) if pos else either(F, False, G, False)
                if k == '|':
                    return either(F, True, G, True) if pos else both(F, False, G, False)
                if k == '=>':
                    return either(F, False, G, True) if pos else both(F, True, G, False)
                if pos:
                    return lim(either(F, False, G, True) + either(G, False, F, True))
                return lim(either(F, True, G, True) + either(F, False, G, False))

            cs = go(f, not prove, {v: prove for v in free})
            for c in cs:
                total += 1
                if total > 200:
                    raise Fault(3, begin)
                try:
                    budget[0] = 0
                    d = [(l[0], conv(l[1], l[3]), conv(l[2], l[3])) for l in c]
                except Big:
                    raise Fault(3, begin)
                if not bounds_ok(d):
                    raise Fault(3, begin)
                d, n = reduced(d)
                if tautology(d):
                    continue
                s.add(d, n, 0, -1, -1)

    def add(s, c, n, origin, a, b, status=0, rew=()):
        s.clauses.append(
            dict(
                lits=c,
                vars=n,
                origin=origin,
                a=a,
                b=b,
                status=status,
                rew=list(rew),
                w=sum(map(litweight, c)),
            )
        )

    def fault(s, w):
        return s.f[w] if w in (0, 1) else -1

    def run(s, n):
        if not 1 <= n <= 100:
            raise IAE()
        for _ in range(n):
            if s.state != 0:
                break
            s.onestep()
        return s.state

    # unification with a dictionary
    def walk(s, t, th):
        while isinstance(t, int) and t in th:
            t = th[t]
        return t

    def occ(s, v, t, th):
        t = s.walk(t, th)
        if isinstance(t, int):
            return t == v
        return any(s.occ(v, a, th) for a in t[1:])

    def unify(s, x, y, th):
        x = s.walk(x, th)
        y = s.walk(y, th)
        if isinstance(x, int) and isinstance(y, int) and x == y:
            return True
        if isinstance(x, int):
            if not isinstance(y, int) and s.syms[y[0]][2] == 'p':
                return False
            if s.occ(x, y, th):
                return False
            th[x] = y
            return True
        if isinstance(y, int):
            return s.unify(y, x, th)
        if x[0] != y[0]:
            return False
        return all(s.unify(a, b, th) for a, b in zip(x[1:], y[1:]))

    def app(s, t, th):
        t = s.walk(t, th)
        if isinstance(t, int):
            return t
        return (t[0],) + tuple(s.app(a, th) for a in t[1:])

    def match(s, p, t, th):
        if isinstance(p, int):
            if p in th:
                return th[p] == t
            if not isinstance(t, int) and s.syms[t[0]][2] == 'p':
                return False
            th[p] = t
            return True
        if isinstance(t, int) or p[0] != t[0]:
            return False
        return all(s.match(a, b, th) for a, b in zip(p[1:], t[1:]))

    def inst(s, t, th):
        if isinstance(t, int):
            return th[t]
        return (t[0],) + tuple(s.inst(a, th) for a in t[1:])

    def subsumes(s, c, d):
        if len(c) > len(d):
            return False

        def go(i, th):
            if i == len(c):
                return True
            for l in d:
                if l[0] != c[i][0]:
                    continue
                for a, b in ((1, 2), (2, 1)):
                    t2 = dict(th)
                    if s.match(c[i][1], l[a], t2) and s.match(c[i][2], l[b], t2) and go(i + 1, t2):
                        return True
            return False

        return go(0, {})

    def rewrite_term(s, rule, t):
        l = rule[0]
        for a, b in ((1, 2), (2, 1)):
            th = {}
            if not s.match(l[a], t, th):
                continue
            if not set(varsof(l[b])) <= set(varsof(l[a])):
                continue
            r = s.inst(l[b], th)
            if greater(t, r):
                return r
        return None

    def rewrite_place(s, rules, t):
        """-> (new term, number) or None"""
        for n, rule in rules:
            r = s.rewrite_term(rule, t)
            if r is not None:
                return r, n
        if isinstance(t, int):
            return None
        for i in range(1, len(t)):
            x = s.rewrite_place(rules, t[i])
            if x is not None:
                return t[:i] + (x[0],) + t[i + 1 :], x[1]
        return None

    def rewrite_once(s, rules, c):
        for i, l in enumerate(c):
            for side in (1, 2):
                x = s.rewrite_place(rules, l[side])
                if x is not None:
                    m = list(l)
                    m[side] = x[0]
                    return c[:i] + [tuple(m)] + c[i + 1 :], x[1]
        return None

    def onestep(s):
        pas = [k for k, c in enumerate(s.clauses) if c['status'] == 0]
        if not pas:
            s.state = 2
            return
        s.c['steps'] += 1
        if s.c['steps'] % 5 == 0:
            g = min(pas)
        else:
            g = min(pas, key=lambda k: (s.clauses[k]['w'], k))
        s.clauses[g]['status'] = 2
        if not s.clauses[g]['lits']:
            s.refute(g)
            return
        rules = [
            (k, c['lits'])
            for k, c in enumerate(s.clauses)
            if c['status'] == 1 and len(c['lits']) == 1 and c['lits'][0][0]
        ]
        cur = s.clauses[g]['lits']
        by = []
        n = 0
        while n < 60:
            x = s.rewrite_once(rules, cur)
            if x is None:
                break
            n += 1
            cur = x[0]
            if x[1] not in by:
                by.append(x[1])
        s.c['rew'] += n
        if n:
            cur, nv = reduced(cur)
            if tautology(cur):
                s.c['taut'] += 1
                return
            if len(s.clauses) >= 2000:
                s.state = 3
                return
            s.add(cur, nv, 4, g, -1, 2, by)
            g = len(s.clauses) - 1
            if not cur:
                s.refute(g)
                return
        me = s.clauses[g]
        proc = [k for k, c in enumerate(s.clauses) if c['status'] == 1]
        for k in proc:
            if s.subsumes(s.clauses[k]['lits'], me['lits']):
                s.c['sub'] += 1
                return
        for k in proc:
            if s.subsumes(me['lits'], s.clauses[k]['lits']):
                s.c['sub'] += 1
                s.clauses[k]['status'] = 2
        if len(me['lits']) == 1 and me['lits'][0][0]:
            for k in proc:
                if (
                    s.clauses[k]['status'] == 1
                    and s.rewrite_once([(g, me['lits'])], s.clauses[k]['lits']) is not None
                ):
                    s.clauses[k]['status'] = 0
        me['status'] = 1
        proc = [k for k, c in enumerate(s.clauses) if c['status'] == 1]
        try:
            for k in proc:
                s.superpose(k, g)
                if k != g:
                    s.superpose(g, k)
            s.resolve(g)
            s.factor(g)
        except OverflowError:
            s.state = 3

    def keep(s, c, origin, a, b):
        s.c['inf'] += 1
        if not bounds_ok(c):
            s.c['drop'] += 1
            return
        c, n = reduced(c)
        if tautology(c):
            s.c['taut'] += 1
            return
        if len(s.clauses) >= 2000:
            raise OverflowError()
        s.add(c, n, origin, a, b)

    def positions(s, t, path=()):
        if isinstance(t, int):
            return
        yield path, t
        for i in range(1, len(t)):
            yield from s.positions(t[i], path + (i,))

    def put(s, t, path, r):
        if not path:
            return r
        i = path[0]
        return t[:i] + (s.put(t[i], path[1:], r),) + t[i + 1 :]

    def superpose(s, a, b):
        A = s.clauses[a]['lits']
        B = [(l[0], shift(l[1], 100), shift(l[2], 100)) for l in s.clauses[b]['lits']]
        ea = eligible(A)
        eb = eligible(B)
        for i in ea:
            if not A[i][0]:
                continue
            for x, y in usable(A[i]):
                l, r = A[i][x], A[i][y]
                for j in eb:
                    for p, q in usable(B[j]):
                        for path, u in s.positions(B[j][p]):
                            th = {}
                            if not s.unify(l, u, th):
                                continue
                            m = list(B[j])
                            m[p] = s.put(B[j][p], path, r)
                            c = [A[k] for k in range(len(A)) if k != i] + [
                                tuple(m) if k == j else B[k] for k in range(len(B))
                            ]
                            s.keep([(z[0], s.app(z[1], th), s.app(z[2], th)) for z in c], 1, a, b)

    def resolve(s, g):
        C = s.clauses[g]['lits']
        for i in eligible(C):
            if C[i][0]:
                continue
            th = {}
            if s.unify(C[i][1], C[i][2], th):
                s.keep(
                    [(z[0], s.app(z[1], th), s.app(z[2], th)) for k, z in enumerate(C) if k != i], 2, g, -1
                )

    def factor(s, g):
        C = s.clauses[g]['lits']
        if selected(C) is not None:
            return
        for i in eligible(C):
            for j in range(len(C)):
                if j == i:
                    continue
                for x, y in usable(C[i]):
                    for p, q in ((1, 2), (2, 1)):
                        th = {}
                        if s.unify(C[i][x], C[j][p], th):
                            c = [z for k, z in enumerate(C) if k not in (i, j)] + [
                                (False, C[i][y], C[j][q]),
                                (True, C[i][x], C[j][q]),
                            ]
                            s.keep([(z[0], s.app(z[1], th), s.app(z[2], th)) for z in c], 3, g, -1)

    def refute(s, g):
        s.state = 1
        seen = set()
        todo = [g]
        while todo:
            k = todo.pop()
            if k < 0 or k in seen:
                continue
            seen.add(k)
            c = s.clauses[k]
            todo += [c['a'], c['b']] + c['rew']
        s.pf = sorted(seen)

    def has(s, k):
        if not 0 <= k < len(s.clauses):
            raise NSE()
        return s.clauses[k]

    def clause(s, k, w):
        c = s.has(k)
        if not 0 <= w <= 7:
            raise IAE()
        return [c['origin'], c['a'], c['b'], len(c['lits']), c['w'], c['vars'], c['status'], len(c['rew'])][w]

    def rewrote(s, k, i):
        c = s.has(k)
        if not 0 <= i < len(c['rew']):
            raise NSE()
        return c['rew'][i]

    def literal(s, k, i, w):
        c = s.has(k)['lits']
        if not 0 <= i < len(c):
            raise NSE()
        if not 0 <= w <= 3:
            raise IAE()
        l = c[i]
        if w == 0:
            return 1 if l[0] else 0
        if w == 1:
            return 1 if greater(l[1], l[2]) else 2 if greater(l[2], l[1]) else 0
        if w == 2:
            return 1 if i in eligible(c) else 0
        return litweight(l)

    def text_of(s, t):
        if isinstance(t, int):
            return 'X%d' % t
        n = s.syms[t[0]][0]
        return n + ('(' + ','.join(map(s.text_of, t[1:])) + ')' if len(t) > 1 else '')

    def show(s, k):
        c = s.has(k)['lits']
        r = []
        for l in c:
            if l[2] == (0,):
                r.append(('' if l[0] else '~') + s.text_of(l[1]))
            else:
                r.append(s.text_of(l[1]) + (' = ' if l[0] else ' != ') + s.text_of(l[2]))
        s.out = list((' | '.join(r) if r else 'false').encode())
        return len(s.out)

    def outb(s, i):
        if not 0 <= i < len(s.out):
            raise IOOB()
        return s.out[i]

    def symbol(s, k, w):
        if not 0 <= k < len(s.syms):
            raise NSE()
        if not 0 <= w <= 2:
            raise IAE()
        x = s.syms[k]
        return [x[1], 1 if x[2] == 'p' else 0, 1 if x[3] else 0][w]

    def proof(s):
        return len(s.pf)

    def step(s, i):
        if not 0 <= i < len(s.pf):
            raise IOOB()
        return s.pf[i]

    def hash(s, seed, nums):
        M = 0xFFFFFFFF
        h = seed & M
        for x in nums:
            h = (31 * (h ^ (h // 128)) + x + 1) & M
        h = ((h ^ (h // 2**15)) * 739982445) & M
        return h ^ (h // 2**12)

    def val(s, t, env, seed, m):
        if isinstance(t, int):
            return env[t]
        if t[0] == 0:
            return True
        h = s.hash(seed, [t[0]] + [s.val(a, env, seed, m) for a in t[1:]])
        if s.syms[t[0]][2] == 'p':
            return h % 2 == 1
        return (h % 2**31) % m

    def true_in(s, c, seed, m):
        for env in itertools.product(range(m), repeat=c['vars']):
            if not any((s.val(l[1], env, seed, m) == s.val(l[2], env, seed, m)) == l[0] for l in c['lits']):
                return False
        return True

    def look(s, seed, m):
        if not 1 <= m <= 3:
            raise IAE()
        if not all(s.true_in(c, seed, m) for c in s.clauses[: s.text]):
            return -1
        return sum(1 for c in s.clauses if not s.true_in(c, seed, m))

    def search(s, seed, m, n):
        if not 1 <= m <= 3 or not 1 <= n <= 50:
            raise IAE()
        for i in range(n):
            if all(s.true_in(c, seed + i, m) for c in s.clauses[: s.text]):
                return i
        return -1

    def count(s, w):
        st = lambda x: sum(1 for c in s.clauses if c['status'] == x)
        v = [
            len(s.clauses),
            s.text,
            st(0),
            st(1),
            s.c['steps'],
            s.c['inf'],
            s.c['drop'],
            s.c['sub'],
            s.c['rew'],
            s.c['taut'],
            s.state,
            len(s.syms),
            len(s.tape),
            len(s.out),
        ]
        return v[w] if 0 <= w <= 13 else -1


def call(p, name, args):
    try:
        return str(getattr(p, 'outb' if name == 'out' else name)(*args))
    except ISE:
        return 'IllegalStateException'
    except IAE:
        return 'IllegalArgumentException'
    except NSE:
        return 'NoSuchElementException'
    except IOOB:
        return 'IndexOutOfBoundsException'
