import java.lang.annotation.Retention;
import java.lang.annotation.RetentionPolicy;

/**
 * The words of the document that a test is for. They stand in the section of the promise whose number is in the
 * name of the test (p03... for promise 3), or in the section "Description" (p00...). SentenceTest looks them up.
 */
@Retention(RetentionPolicy.RUNTIME)
@interface Sentence {
    String[] value();
}
