/** The four examples of the document. */
public final class ExampleTest {
    public static void main(String[] args) {
        new Run("example 1").calls("setColour(1,1,3)=0 paneCount()=2 holes(0)=1 innerCorners(0)=4"
                + " canBeCut(0)=0 splitPieces(0)=3 splitLead(0)=3 applySplit(0)=4 paneCount()=4"
                + " cuttableCount()=4");
        new Run("example 2").calls("appendCharacter(48)=1 appendCharacter(48)=2"
                + " appendCharacter(49)=3 appendCharacter(59)=4 appendCharacter(48)=5"
                + " appendCharacter(49)=6 appendCharacter(49)=7 appendCharacter(59)=8"
                + " loadDrawing()=2 paneAt(1,1)=1 leadLength()=3 addCut(0,0,0)=1 paneCount()=3"
                + " equalNeighbours()=1");
        new Run("example 3").calls("addCut(0,0,0)=1 looseCuts()=1 paneCount()=1"
                + " removeLooseCuts()=1 addCut(0,2,0)=-1");
        new Run("example 4").calls("setCellLimit(3)=12 splitPieces(0)=3 splitLead(0)=6"
                + " applySplit(0)=3 colourCount(0)=2 suggestedColour(0,1)=1 largestClique()=2"
                + " applySplit(0)=-2");
        Run.end();
    }
}
