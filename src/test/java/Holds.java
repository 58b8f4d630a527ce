import java.lang.annotation.ElementType;
import java.lang.annotation.Retention;
import java.lang.annotation.RetentionPolicy;
import java.lang.annotation.Target;

/**
 * On a test of an edge: the promise that it is about, and what the document says of it, word by
 * word, in that promise's section or in the Terms. EdgesTest looks it up there.
 */
@Retention(RetentionPolicy.RUNTIME)
@Target(ElementType.METHOD)
@interface Holds {
    int promise();

    String[] says();
}
