import java.util.NoSuchElementException;

/** The document's exceptions by short names, for the tests that ask for refused calls. */
interface Refusals {
    Class<IllegalArgumentException> ILLEGAL = IllegalArgumentException.class;
    Class<IllegalStateException> STATE = IllegalStateException.class;
    Class<IndexOutOfBoundsException> BOUNDS = IndexOutOfBoundsException.class;
    Class<UnsupportedOperationException> UNSUPPORTED = UnsupportedOperationException.class;
    Class<NoSuchElementException> NONE = NoSuchElementException.class;
    Class<ArithmeticException> ARITHMETIC = ArithmeticException.class;
}
