import java.lang.annotation.ElementType;
import java.lang.annotation.Retention;
import java.lang.annotation.RetentionPolicy;
import java.lang.annotation.Target;

/** The sentence of the document, in its own words, that a test would fail for if it were broken. */
@Retention(RetentionPolicy.RUNTIME)
@Target(ElementType.METHOD)
@interface Says {
    String value();
}
