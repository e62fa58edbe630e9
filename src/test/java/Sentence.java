import java.lang.annotation.ElementType;
import java.lang.annotation.Retention;
import java.lang.annotation.RetentionPolicy;
import java.lang.annotation.Target;

/** The words of the document for which a method is the test. */
@Retention(RetentionPolicy.RUNTIME)
@Target(ElementType.METHOD)
@interface Sentence {
    int TERMS = 0;
    int WHAT_IT_IS = 20;
    int FACE = 21;

    /** The number of the promise, or one of the above for a section that is none. */
    int of();

    /** The words, as they stand in that section. */
    String[] says();
}
