import java.lang.annotation.ElementType;
import java.lang.annotation.Retention;
import java.lang.annotation.RetentionPolicy;
import java.lang.annotation.Target;

/** The words of the document that a test holds the class to: they stand in the promise of this number. */
@Retention(RetentionPolicy.RUNTIME)
@Target(ElementType.METHOD)
@interface Says {
    /** 1 .. 50, or 0: what stands ahead of the promises. */
    int promise();

    /** As they stand there; several, where the words are not side by side. */
    String[] words();
}
