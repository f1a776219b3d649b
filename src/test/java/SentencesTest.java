/**
 * Each sentence of the document from its first line to the promise 31 has a test that names it and calls the class on both
 * sides of its boundary. In the end, a sentence that no test has named is a fault too.
 */
public final class SentencesTest {
    public static void main(String[] args) {
        WhatItIs.check();
        Terms.check();
        TermsMerging.check();
        TermsCommandText.check();
        TermsUndo.check();
        Promises1To12.check();
        Promises13To24.check();
        Promises25To28.check();
        Promises29To31.check();
        Document.eachSentenceIsNamed();
        Due.end("SentencesTest");
    }
}
