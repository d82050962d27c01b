/**
 * Each sentence of the document that names a boundary, by a test of its own that bears the sentence's name; and whether
 * any of the document's text is left that no test names.
 */
public final class BoundariesTest {
    private BoundariesTest() {
    }

    public static void main(String[] args) {
        PeopleLawDraws.run();
        InThought.run();
        DoubtsRingsYears.run();
        YearsAndDeeds.run();
        ActsShelvesRefusals.run();
        TicketsAndThoughtsPromised.run();
        DoubtsAndDeedsPromised.run();
        ActsAndShelvesPromised.run();
        Sentences.test("IN THOUGHT, from now:", Refused::thoughts);
        namesNoBoundary();
        Sentences.lookForGaps();
        Due.end();
    }

    private static void namesNoBoundary() {
        Sentences.plain("A lottery of losses: people with things they love, tickets with things on them that are held, drawn, and what is drawn is taken away from whoever holds it, at a loss by a law told as a text; what one loses by so many draws on the mean, at worst, how likely more than so much, who is rich by having lost the right things; what a ticket is worth to be rid of, whom it hurts least, swaps by which both gain, two tickets that cancel each other, the fairest way to give tickets out; syndicates that none would leave; blanks, how sure it is that a ticket is forged by so many draws; draws told ahead; years told read back: whose a ticket was; what all rings of wishes would swap; years by draws; draws in deed; tickets, loves mended, undone; an image; tickets from rows that lack or end; losses whose acts come from above; and each ticket and thing led.");
        Sentences.plain("Ahead of the calls `ticket`, `tickets`, `mend`, `of`, `feed`, `law`, `loss` the interface says: ---- tickets, loves");
        Sentences.plain("Ahead of the calls `mean`, `worst`, `more`, `keeps`, `rid`, `given`, `swap`, `cancel`, `fairest`, `syndicate` the interface says: ---- in thought");
        Sentences.plain("Ahead of the calls `forged`, `doubt`, `odds`, `ahead`, `ring`, `judge`, `lost`, `whose`, `drawn` the interface says: ---- doubts, rings, years seen");
        Sentences.plain("Ahead of the calls `draw`, `give`, `cancels`, `year`, `led`, `image`, `back`, `undo`, `redo` the interface says: ---- in deed");
        Sentences.plain("Ahead of the calls `body`, `act`, `trace`, `keep`, `row`, `put`, `element`, `shift`, `taken`, `count` the interface says: ---- acts, shelves");
        Sentences.plain("How the state is held inside the object is free, as are the speed of each call, the text of toString and the behaviour of equals and hashCode. Use of one object from several threads at once is not promised to be safe. Nothing is promised beyond the answers and state changes described above, and");
    }
}
