import java.lang.annotation.ElementType;
import java.lang.annotation.Retention;
import java.lang.annotation.RetentionPolicy;
import java.lang.annotation.Target;

/** The sentence of the document, word by word, that a test is for; it stands there once. */
@Retention(RetentionPolicy.RUNTIME)
@Target(ElementType.METHOD)
@interface Sentence {
    String value();

    /** The promise in whose words it stands; 0: it stands ahead of the promises. */
    int promise() default 0;
}
