import java.lang.annotation.ElementType;
import java.lang.annotation.Retention;
import java.lang.annotation.RetentionPolicy;
import java.lang.annotation.Target;

/** Names the words of the document that a test belongs to: the test fails if they do not hold. */
@Retention(RetentionPolicy.RUNTIME)
@Target(ElementType.METHOD)
@interface Says {
    /** The heading under which the words stand. */
    String of();

    /** The words as they stand there; line ends count as spaces. */
    String words();
}
