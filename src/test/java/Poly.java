import java.util.ArrayList;
import java.util.List;

/** Polynomials of one letter with fractions for numbers, the lowest power first, without zeros at the end. */
final class Poly {
    final List<Fraction> numbers;

    private Poly(List<Fraction> numbers) {
        int size = numbers.size();
        while (size > 0 && numbers.get(size - 1).isZero()) {
            size--;
        }
        this.numbers = List.copyOf(numbers.subList(0, size));
    }

    static Poly of(long... numbers) {
        List<Fraction> list = new ArrayList<>();
        for (long number : numbers) {
            list.add(Fraction.of(number));
        }
        return new Poly(list);
    }

    int degree() {
        return numbers.size() - 1;
    }

    boolean isZero() {
        return numbers.isEmpty();
    }

    Fraction get(int k) {
        return k < 0 || k >= numbers.size() ? Fraction.ZERO : numbers.get(k);
    }

    Fraction top() {
        return get(degree());
    }

    Poly plus(Poly other) {
        List<Fraction> list = new ArrayList<>();
        for (int k = 0; k <= Math.max(degree(), other.degree()); k++) {
            list.add(get(k).plus(other.get(k)));
        }
        return new Poly(list);
    }

    Poly times(Fraction factor) {
        List<Fraction> list = new ArrayList<>();
        for (Fraction number : numbers) {
            list.add(number.times(factor));
        }
        return new Poly(list);
    }

    Poly times(long factor) {
        return times(Fraction.of(factor));
    }

    Poly minus(Poly other) {
        return plus(other.times(-1));
    }

    Poly times(Poly other) {
        Poly sum = of();
        for (int k = 0; k <= degree(); k++) {
            sum = sum.plus(other.times(get(k)).shifted(k));
        }
        return sum;
    }

    Poly power(int often) {
        Poly power = of(1);
        for (int i = 0; i < often; i++) {
            power = power.times(this);
        }
        return power;
    }

    private Poly shifted(int by) {
        List<Fraction> list = new ArrayList<>();
        for (int k = 0; k < by; k++) {
            list.add(Fraction.ZERO);
        }
        list.addAll(numbers);
        return new Poly(list);
    }

    /** The share and the rest of a division. */
    Poly[] by(Poly other) {
        Poly share = of();
        Poly rest = this;
        while (!rest.isZero() && rest.degree() >= other.degree()) {
            Poly step = of(1).times(rest.top().by(other.top())).shifted(rest.degree() - other.degree());
            share = share.plus(step);
            rest = rest.minus(step.times(other));
        }
        return new Poly[] {share, rest};
    }

    static Poly divisor(Poly a, Poly b) {
        return b.isZero() ? a : divisor(b, a.by(b)[1]);
    }

    Poly growth() {
        List<Fraction> list = new ArrayList<>();
        for (int k = 1; k <= degree(); k++) {
            list.add(get(k).times(Fraction.of(k)));
        }
        return new Poly(list);
    }

    Fraction at(Fraction t) {
        Fraction sum = Fraction.ZERO;
        for (int k = degree(); k >= 0; k--) {
            sum = sum.times(t).plus(get(k));
        }
        return sum;
    }

    /** Sturm: how many real roots, each once. */
    int roots() {
        List<Poly> chain = new ArrayList<>(List.of(this, growth()));
        while (!chain.get(chain.size() - 1).isZero()) {
            int last = chain.size() - 1;
            chain.add(chain.get(last - 1).by(chain.get(last))[1].times(-1));
        }
        chain.remove(chain.size() - 1);
        return changes(chain, -1) - changes(chain, 1);
    }

    private static int changes(List<Poly> chain, int side) {
        int changes = 0;
        int before = 0;
        for (Poly p : chain) {
            int sign = p.top().sign() * (side < 0 && p.degree() % 2 == 1 ? -1 : 1);
            if (before != 0 && sign != before) {
                changes++;
            }
            before = sign;
        }
        return changes;
    }
}
