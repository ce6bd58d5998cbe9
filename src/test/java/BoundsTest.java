/** For each sentence of the document that names a boundary case, a test that bears the sentence as its name. */
public final class BoundsTest {
    public static void main(String[] args) {
        LanguageBounds.look();
        GardenBounds.look();
        CallBounds.look();
        WhatWouldBeBounds.look();
        Sentences.allAreRead();
        Sentences.tellNames();
        Checks.finish("BoundsTest");
    }
}
