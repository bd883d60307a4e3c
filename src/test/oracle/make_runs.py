"""Writes the runs that ReplayRuns.java replays: python3 make_runs.py ../data

The same texts come out each time. A line is a call, or a group of calls, and what is due."""
import os
import random
import sys

import second_prover


def escaped(text):
    return ''.join(c if 32 <= ord(c) < 127 and c != '\\' else '\\%02x' % ord(c) for c in text)


class Log:
    def __init__(self):
        self.lines = []
        self.prover = None

    def new(self):
        self.prover = second_prover.Prover()
        self.lines.append('new')

    def text(self, text):
        self.prover.tape = list(text.encode('latin1'))
        self.lines.append('text ' + escaped(text))

    def call(self, name, *args):
        answer = second_prover.call(self.prover, name, args)
        self.lines.append(' '.join([name] + [str(a) for a in args]) + ' = ' + answer)

    def faults(self):
        self.lines.append('faults = %d %d' % self.prover.f)

    def counts(self):
        self.lines.append('counts = ' + ' '.join(str(self.prover.count(w)) for w in range(14)))

    def symbols(self):
        kinds = [
            '%d%d%d' % tuple(self.prover.symbol(k, w) for w in range(3)) for k in range(self.prover.count(11))
        ]
        self.lines.append('symbols = ' + ' '.join(kinds))

    def clauses(self, first=0):
        p = self.prover
        for k in range(first, p.count(0)):
            facts = ' '.join(str(p.clause(k, w)) for w in range(8))
            rewriters = ''.join('%d ' % p.rewrote(k, i) for i in range(p.clause(k, 7)))
            literals = ''.join(
                ','.join(str(p.literal(k, i, w)) for w in range(4)) + ' ' for i in range(p.clause(k, 3))
            )
            p.show(k)
            line = '%s [%s] %s%s' % (facts, rewriters, literals, bytes(p.out).decode())
            self.lines.append('clauses %d = %s' % (k, line))

    def all(self, first=0):
        self.counts()
        self.clauses(first)
        self.lines.append(
            'proofs = ' + ' '.join(str(self.prover.step(i)) for i in range(self.prover.proof()))
        )

    def write(self, path):
        with open(path, 'w') as file:
            file.write('\n'.join(self.lines) + '\n')


# ---- texts at the edges of what can stand ----

WORDS = [
    '',
    '   \n\t\r ',
    '% only a note',
    '% note\na.',
    'a. % note',
    'a%b\n.',
    'a',
    'a  ',
    'a.b',
    'a..',
    '.',
    'a b.',
    'a$.',
    'a.\x80',
    '1a.',
    '_a.',
    'a_1B.',
    'a' * 31 + '.',
    'a' * 32 + '.',
    'X' * 32 + ' = a.',
    'p(' + 'b' * 32 + ').',
    'a!=b.',
    'a==b.',
    'a=>b.',
    'a<=>b.',
    'a <= b.',
    'a < b.',
    'a<=b>c.',
    '!=a.',
    'a !=> b.',
    'a=!=b.',
    'X = Y.',
    'X.',
    'X & a.',
    'X(a).',
    'a = p & b.',
    'a = .',
    'a = b = c.',
    'a = (b).',
    '(a) = b.',
    '(a = b).',
    '((a)).',
    '(a',
    '(a.',
    'a).',
    '()',
    'p().',
    'p(a,).',
    'p(,a).',
    'p(a',
    'p(a b).',
    'p(a;b).',
    '~.',
    '~~~a.',
    '~a=b.',
    '~a!=b.',
    'a & .',
    'a & b | c & d => e <=> f | g.',
    'a <=> b <=> c.',
    'a => b => c.',
    '(a => b) => c.',
    'a => (b => c) => d.',
    '!X:p(X).',
    '! X Y Z : p(X,Y,Z).',
    '! : a.',
    '! X a.',
    '! X, Y : a.',
    '! a : b.',
    '! X :',
    '? X : .',
    '! X X : p(X).',
    '! X : ? X : p(X).',
    '! X : a <=> b <=> c.',
    'a <=> ! X : b <=> c.',
    'a <=> ! X : b <=> c <=> d.',
    '! X : ! Y : a <=> b <=> c <=> d.',
    '! X : ! Y : a <=> b <=> c <=> d <=> e.',
    '(! X : a <=> b <=> c) <=> d.',
    '~ ! X : a <=> b <=> c.',
    'a & ! X : b <=> c <=> d | e.',
    'a => ! X : b <=> c <=> d.',
    '! X : p(X) & q(X) | r.',
    '~ ! X : p(X) & q.',
    'a & ! X : p(X) | b => c.',
    'prove',
    'prove.',
    'prove a.',
    'prove prove.',
    'proved.',
    'prove = a.',
    'prove(a).',
    '~prove.',
    'a & prove.',
    'prove & a.',
    'p(prove).',
    'prove prove(a).',
    'prove X = Y.',
    'a. prove b. prove a.',
    'Prove = a.',
    'prove a. prove',
    'a.prove b.',
]
NAMES = [
    'p(a). p.',
    'p. p(a).',
    'p(a) & a.',
    'a = b. a.',
    'a. a = b.',
    'a. b = a.',
    'a. a = @.',
    'a. a != .',
    'a. a @.',
    'a = b. a @.',
    'a = b. a',
    'a = b. a b.',
    'p(a,b). p(a,',
    'p(a,b). p(a @',
    'p(a,b). p(a) @',
    'p(a,b). p(a) = @',
    'p(f(a),f(a,b)).',
    'f(f(a,b)) = c.',
    'f(f(a),f(a,b)) = c.',
    'p(p).',
    'p(p(p)).',
    'p(a). q(p(b)).',
    'p(a). q(p @).',
    'p(f(a)). q(f).',
    'p(f(a)). q(f',
    'p(f(a)). f(b) = @.',
    'p(f(a)). X = f @.',
    'X = f. X = f(a).',
    'p(f(a)). f = @',
    'p(f(a)). f(a,b) &',
    'p & p = p.',
    'a = b. p(a(@)).',
    'w0 = a. ? X : X = w0.',
]
WITNESSES = [
    '(? Y : p(Y)) & q(X).',
    'q(X) & ? Y : r(X,Y).',
    '! X : ? Y : ! Z : ? U : p(X,Y,Z,U).',
    '~ ? X : ! Y : p(X,Y).',
    'p <=> ! X : q(X).',
    'p <=> ! X : ? Y : q(X,Y).',
    'p <=> ! X : (q(X) <=> ? Y : r(X,Y)).',
    '(! X : p(X)) <=> (? Y : q(Y)).',
    '? X : p.',
    '! X : p. ? Y : p.',
    'prove ! X : p.',
    'prove q(X,Y) & ? Z : p(X,Y,Z).',
    'prove (! Z : p(Z)) & q(X).',
    'prove (? Z : p(Z)) & q(X) & r(Y).',
    '! X : ! X : ? Y : p(X,Y).',
    '? X Y : p(X,Y).',
    '(? X : p(X)) | (? X : q(X)) | r(X).',
    '? X : p(X) <=> q(Y).',
    '~(? X : p(X) <=> ! Y : q(X,Y)).',
    'prove ? X : ! Y : p(X,Y) => ? Z : q(Z,Y,U).',
    '(? X : p(X)) => ! X : p(X).',
    'a. ? X : b. prove ! Y : c(Z). d(X).',
    '(a <=> b) <=> (c <=> d).',
    '~(a <=> ~(b => c & d)).',
    '~(a <=> (b <=> (c <=> (d <=> e)))).',
]
REDUCED = [
    'a != a.',
    'a = a.',
    'a = b | b = a.',
    'a != b | b = a.',
    'a = b | b != a | c.',
    'p(X) | p(Y).',
    'p(X) | p(X) | ~q.',
    'p | ~p.',
    'X != X | p(Y,X).',
    'f(X) != f(X) | g(Y) = X | X = g(Y) | g(X) = Y.',
    'p(Y,X) | q(X,Y).',
    'X = Y.',
    'X != Y.',
    'X = a.',
    'a != a. b.',
    'X = X.',
]


def deep_texts():
    for d in (60, 61):
        for inner in ('a', '@', '', 'X = a', ')'):
            yield '~' * d + inner + '.'
            yield '(' * d + inner + ')' * d + '.'
            yield 'a=>' * d + inner + '.'
            yield '!X:' * d + inner + '.'
            yield 'p(' + 'f(' * (d - 1) + inner + ')' * d + '.'
            yield 'f(' * d + inner + ')' * d + ' = c.'
            yield '~' * (d - 1) + 'p(' + inner + ').'
            yield '~' * (d - 2) + '(b => p(' + inner + ')).'
        yield '~' * d
        yield '~' * d + 'X' * 32
        yield '(a=>' * (d // 2) + 'b'
    yield '(a=>' * 31 + 'b'


def large_texts():
    for n in (199, 200, 201):
        yield '! ' + 'X ' * (n - 1) + ': a.'
        yield '? ' + 'X ' * (n - 1) + ': X != a.'
        yield ' & '.join(['a'] * n) + '.'
        yield 'prove ' + ' | '.join(['a'] * n) + '.'
        yield 'b. ' + ' & '.join(['a'] * n) + '. c.'
        yield 'a & b. ' * (n // 2) + 'a.' * (n % 2)
    for n in (8, 9):
        yield ' | '.join('p(%s)' % c for c in 'abcdefghi'[:n]) + '.'
        yield ' | '.join(['p(a)'] * n) + '.'
        yield 'a != a | ' * (n - 1) + 'b.'
        yield 'a = a | ' * (n - 1) + 'b.'
    for n in (6, 7):
        yield 'p(' + ','.join('X%d' % i for i in range(n)) + ').'
        yield ' | '.join('X%d != X%d' % (i, i) for i in range(n)) + '.'
        yield '! ' + ' '.join('X%d' % i for i in range(n)) + ' : ? Y : p(Y).'
        yield '! ' + ' '.join('X%d' % i for i in range(n)) + ' : ? Y : p(a).'
        yield 'prove ' + 'p(' + ','.join('X%d' % i for i in range(n)) + ').'
        yield '? ' + ' '.join('X%d' % i for i in range(n + 1)) + ' : p(X%d).' % n
    for n in (98, 99):
        yield 'p(' + ','.join(['a'] * n) + ').'
        yield 'p(' + ','.join(['a'] * (n - 2)) + ') | b.'
    yield 'a | b | c | d | e | f | g | h | i. p(@'
    yield 'b. a | b | c | d | e | f | g | h | i. p(k).'


def edges():
    log = Log()
    for text in WORDS + NAMES + WITNESSES + REDUCED + list(deep_texts()) + list(large_texts()):
        log.new()
        log.text(text)
        log.call('read')
        log.faults()
        log.symbols()
        if log.prover.count(0) < 20:
            log.all()
        log.call('run', 3)
        log.counts()
    return log


# ---- theories that are known, for long runs ----

THEORIES = {
    'group': (
        ['mul(e,X) = X', 'mul(i(X),X) = e', 'mul(mul(X,Y),Z) = mul(X,mul(Y,Z))'],
        ['mul(X,i(X)) = e', 'i(i(X)) = X', 'mul(X,e)=X'],
    ),
    'square': (['mul(X,X) = e', 'mul(X,Y)=mul(Y,X)', 'mul(X,e)=X'], ['mul(X,mul(X,Y)) = Y']),
    'lattice': (
        [
            'meet(X,Y)=meet(Y,X)',
            'join(X,Y)=join(Y,X)',
            'meet(X,join(X,Y))=X',
            'join(X,meet(X,Y))=X',
            'meet(meet(X,Y),Z)=meet(X,meet(Y,Z))',
        ],
        ['meet(X,X)=X'],
    ),
    'order': (
        ['le(X,X)', 'le(X,Y) & le(Y,Z) => le(X,Z)', 'le(X,Y) & le(Y,X) => X = Y', 'le(X,Y) | le(Y,X)'],
        ['? X : ! Y : le(X,Y)'],
    ),
    'function': (
        ['! X : ? Y : f(Y) = X', 'f(X) = f(Y) => X = Y', 'f(f(X)) = g(X,a)', 'g(X,Y) = g(Y,X)'],
        ['? X : f(X) = X'],
    ),
    'few': (
        ['X = a | p(X)', 'p(f(X)) => X = b', 'f(X) != X | q(X,Y)', 'X = Y | q(X,Y)', 'X = a | X = b'],
        ['p(f(a))'],
    ),
    'mixed': (
        [
            '(? X : ! Y : f(X) => g(Y))',
            '! X : (p(X) <=> ? Y : r(X,Y))',
            '~(p(a) <=> p(b))',
            'r(X,Y) => r(Y,X)',
            '(! X : p(X)) <=> (? Y : ~p(Y))',
        ],
        ['? X : p(X)'],
    ),
    'combinators': (
        ['ap(ap(ap(s,X),Y),Z) = ap(ap(X,Z),ap(Y,Z))', 'ap(ap(k,X),Y) = X'],
        ['? X : ! Y : ap(X,Y) = ap(Y,ap(X,Y))', '? I : ! X : ap(I,X) = X'],
    ),
    'ring': (
        [
            'add(X,zero)=X',
            'add(zero,X)=X',
            'add(X,neg(X))=zero',
            'add(add(X,Y),Z)=add(X,add(Y,Z))',
            'add(X,Y)=add(Y,X)',
            'mul(X,add(Y,Z))=add(mul(X,Y),mul(X,Z))',
        ],
        ['mul(X,zero) = zero'],
    ),
    'sets': (
        [
            'sub(X,Y) <=> (! Z : in(Z,X) => in(Z,Y))',
            'X = Y <=> sub(X,Y) & sub(Y,X)',
            'in(Z,un(X,Y)) <=> in(Z,X) | in(Z,Y)',
        ],
        ['sub(a,un(a,b))', 'un(X,Y) = un(Y,X)'],
    ),
    'wide': (
        [
            'p(X,Y,Z,U,V) | q(X,f(Y,Z)) | ~q(V,U)',
            'q(f(X,Y),f(Y,Z)) | p(X,X,Y,f(Z,Y),W)',
            '~p(X,Y,X,f(X,X),Y) | q(Y,X) | X = f(Y,X)',
            'f(f(X,Y),f(Z,U)) = f(X,U)',
        ],
        ['q(X,X)'],
    ),
    'numbers': (
        [
            's(X) = s(Y) => X = Y',
            's(X) != o',
            'plus(o,X)=X',
            'plus(s(X),Y)=s(plus(X,Y))',
            'times(o,X)=o',
            'times(s(X),Y)=plus(Y,times(X,Y))',
        ],
        [
            'plus(X,o)=X',
            'plus(s(s(o)),s(s(o))) = s(s(s(s(o))))',
            'times(s(s(o)),s(s(s(o)))) = X => X = s(s(s(s(s(s(o))))))',
        ],
    ),
}


def theories():
    rand = random.Random(1)
    log = Log()
    for axioms, goals in THEORIES.values():
        for goal in goals:
            log.new()
            log.text('. '.join(axioms) + '. prove ' + goal + '.')
            log.call('read')
            while log.prover.count(10) == 0 and log.prover.count(0) < 110:
                first = log.prover.count(0)
                log.call('run', rand.choice([1, 2, 3, 5, 7]))
                log.all(first)
            log.all()
            for m in (1, 2, 3):
                log.call('search', rand.randint(-9999, 9999), m, 50)
                log.call('look', rand.randint(-9999, 9999), m)
    log.new()
    log.text('. '.join(THEORIES['combinators'][0]) + '. prove ' + THEORIES['combinators'][1][0] + '.')
    log.call('read')
    for _ in range(3):
        log.call('run', 100)
        log.counts()
    log.clauses(1990)
    return log


# ---- texts by chance ----


def a_term(rand, functions, variables, depth):
    if variables and rand.random() < 0.4:
        return rand.choice(variables)
    name = rand.choice([f for f in functions if depth > 0 or functions[f] == 0])
    return applied(rand, name, functions[name], functions, variables, depth)


def applied(rand, name, arity, functions, variables, depth):
    terms = ','.join(a_term(rand, functions, variables, depth - 1) for _ in range(arity))
    return name + ('(' + terms + ')' if arity else '')


def an_atom(rand, functions, predicates, variables):
    if rand.random() < 0.45 or not predicates:
        sign = rand.choice([' = ', '=', ' != '])
        return a_term(rand, functions, variables, 2) + sign + a_term(rand, functions, variables, 2)
    name = rand.choice(list(predicates))
    return applied(rand, name, predicates[name], functions, variables, 2)


def a_formula(rand, functions, predicates, variables, depth):
    def part(inner=variables):
        text = a_formula(rand, functions, predicates, inner, depth - 1)
        return '(' + text + ')' if rand.random() < 0.6 else text

    x = rand.random()
    if depth <= 0 or x < 0.3:
        return an_atom(rand, functions, predicates, variables)
    if x < 0.42:
        return '~' + part()
    if x < 0.6:
        bound = [rand.choice('XYZUV') for _ in range(rand.choice([1, 1, 2, 3]))]
        return rand.choice('!?') + ' '.join(bound) + ':' + part(variables + bound)
    return part() + ' ' + rand.choice(['&', '|', '=>', '<=>', '&', '|']) + ' ' + part()


def a_clause(rand, functions, predicates, variables):
    literals = [an_atom(rand, functions, predicates, variables) for _ in range(rand.randint(1, 4))]
    return ' | '.join('~' + x if '=' not in x and rand.random() < 0.5 else x for x in literals)


def a_text(rand):
    functions = {f: rand.choice([0, 0, 0, 1, 1, 2]) for f in rand.sample(list('abcfghk'), rand.randint(2, 5))}
    functions['a'] = 0
    predicates = {p: rand.choice([0, 1, 1, 2]) for p in rand.sample(list('pqrs'), rand.randint(0, 3))}
    variables = list('XYZ')[: rand.randint(0, 3)]
    sentences = []
    for _ in range(rand.randint(1, 6)):
        if rand.random() < 0.5:
            text = a_clause(rand, functions, predicates, variables)
        else:
            text = a_formula(rand, functions, predicates, variables, rand.randint(0, 3))
        sentences.append(('prove ' if rand.random() < 0.2 else '') + text + '.')
    return rand.choice([' ', '\n', ' % note\n']).join(sentences)


def spoilt(rand, text):
    signs = list(text)
    for _ in range(rand.choice([1, 1, 1, 2, 3])):
        i = rand.randrange(len(signs))
        if rand.random() < 0.5:
            signs[i] = rand.choice(list('.(),:~!?&|=<>% XYabfp@'))
        else:
            signs.insert(i, rand.choice(['=>', '<=>', '!=', 'prove ', 'f(', 'p(a)', ')', '.', 'X', '~', ',']))
    return ''.join(signs)


def by_chance():
    rand = random.Random(2)
    log = Log()
    for i in range(60):
        if i % 3 == 0:
            log.new()
        log.text(a_text(rand))
        log.call('read')
        log.faults()
        log.symbols()
        log.all()
        for _ in range(5):
            if log.prover.count(0) < 60:
                log.call('run', rand.choice([1, 2, 3, 5]))
                log.call('look', rand.randint(-(2**31), 2**31 - 1), rand.randint(1, 3))
        log.all()
        last = log.prover.count(0)
        log.call('search', rand.randint(-(2**31), 2**31 - 1), rand.randint(0, 4), rand.randint(0, 51))
        log.call('clause', rand.randint(-1, last), rand.randint(-1, 8))
        log.call('rewrote', rand.randint(-1, last), rand.randint(-1, 2))
        log.call('literal', rand.randint(-1, last), rand.randint(-1, 3), rand.randint(-1, 4))
        log.call('symbol', rand.randint(-1, 9), rand.randint(-1, 3))
        log.call('step', rand.randint(-1, 5))
    for i in range(300):
        if i % 20 == 0:
            log.new()
        log.text(spoilt(rand, a_text(rand)))
        log.call('read')
        log.faults()
    return log


def main(folder):
    edges().write(os.path.join(folder, 'edges.txt'))
    theories().write(os.path.join(folder, 'theories.txt'))
    by_chance().write(os.path.join(folder, 'chance.txt'))


if __name__ == '__main__':
    main(sys.argv[1])
