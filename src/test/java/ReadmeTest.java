import java.io.IOException;
import java.nio.file.Files;
import java.nio.file.Path;
import java.util.HashSet;
import java.util.List;
import java.util.Set;

/** The examples of README.md, line by line, give what README.md says. */
public final class ReadmeTest {
    public static void main(String[] args) throws IOException {
        examples();
        theirLinesStandHere();
        Ledgers.end();
    }

    static void put(PactLedger ledger, int... bytes) {
        for (int octet : bytes) {
            ledger.put(octet, 1);
        }
    }

    private static void examples() {
        PactLedger ledger = new PactLedger();
        put(ledger, 4, 3, 4, 3, 4, 3);                     // parameter, result and storage are a NAT each
        put(ledger, 2, 7, 4, 31, 4, 37, 4, 32, 4, 38);     // a row of 7 instructions: DUP, CAR, SWAP, CDR,
        put(ledger, 4, 60, 4, 31, 4, 36);                  // ADD, DUP, PAIR
        put(ledger, 0, 0);                                 // the storage is 0 at first
        int adder = ledger.deploy();                       // 0, the contract's number
        Ledgers.due("adder", adder, 0);
        put(ledger, 0, 5);                                 // the parameter is 5
        int cost = ledger.call(adder, 120, 150);           // 7, one for each instruction
        Ledgers.due("cost", cost, 7);
        int bytes = ledger.count(2);                       // 2, the result is 0, 5:
        Ledgers.due("bytes", bytes, 2);
        int number = ledger.octet(1);                      // 5
        Ledgers.due("number", number, 5);
        refused(ledger, adder);
        big(ledger);
    }

    private static void refused(PactLedger ledger, int adder) {
        int place = PactLedger.NONE;
        put(ledger, 1, 1, 65);                             // a text
        try {
            ledger.call(adder, 120, 150);
        } catch (IllegalArgumentException e) {
            place = ledger.wrong();                        // 0, where the node begins that is no NAT
        }
        Ledgers.due("place", place, 0);
        int calls = ledger.about(adder, 2);                // 1, the one that went well
        Ledgers.due("calls", calls, 1);
    }

    private static void big(PactLedger ledger) {
        put(ledger, 4, 3, 4, 0);                           // the parameter is a NAT, the result a UNIT
        put(ledger, 6, 5, 6, 10, 4, 3, 4, 3, 4, 0);        // the storage is a PAIR of a BIG NAT NAT and a UNIT
        put(ledger, 2, 12, 4, 31, 4, 37);                  // a row of 12 instructions: DUP, CAR,
        put(ledger, 5, 33, 2, 2, 4, 38, 4, 37);            // DIP with a row of CDR, CAR,
        put(ledger, 4, 31, 4, 39, 4, 32, 4, 53);           // DUP, SOME, SWAP, UPDATE,
        put(ledger, 4, 35, 4, 32, 4, 36, 4, 35, 4, 36);    // UNIT, SWAP, PAIR, UNIT, PAIR
        put(ledger, 6, 23, 2, 0, 4, 20);                   // a BIG without keys and the unit
        int keeper = ledger.deploy();                      // 1
        Ledgers.due("keeper", keeper, 1);
        put(ledger, 0, 9);                                 // the parameter is 9
        int paid = ledger.call(keeper, 120, 150);          // 14
        Ledgers.due("paid", paid, 14);
        int keys = ledger.about(keeper, 4);                // 1
        Ledgers.due("keys", keys, 1);
        put(ledger, 0, 9);                                 // the key is 9
        int found = ledger.find(keeper);                   // 4, the output is 5, 25, 0, 9: the option of 9
        Ledgers.due("found", found, 4);
        dueOutput(ledger, 5, 25, 0, 9);
        int shown = ledger.storage(keeper);                // 6, the output is 6, 23, 0, 1, 4, 20: for the BIG stands 1
        Ledgers.due("shown", shown, 6);
        dueOutput(ledger, 6, 23, 0, 1, 4, 20);
    }

    private static void dueOutput(PactLedger ledger, int... bytes) {
        for (int i = 0; i < bytes.length; i++) {
            Ledgers.due("octet(" + i + ")", ledger.octet(i), bytes[i]);
        }
        Ledgers.due("octet behind the last one", ledger.octet(bytes.length), PactLedger.NONE);
    }

    /** Else README.md could say what no test does. */
    private static void theirLinesStandHere() throws IOException {
        Set<String> here = new HashSet<>();
        for (String line : Files.readAllLines(Path.of("src/test/java/ReadmeTest.java"))) {
            here.add(plain(line));
        }
        List<String> readme = Files.readAllLines(Path.of("README.md"));
        boolean inExample = false;
        int lines = 0;
        for (String line : readme) {
            if (line.startsWith("```")) {
                inExample = line.equals("```java");
            } else if (inExample && !line.isBlank()) {
                Ledgers.due("a test of the line: " + line, here.contains(plain(line)) ? 1 : 0, 1);
                lines++;
            }
        }
        Ledgers.due("whether there are examples", lines > 0 ? 1 : 0, 1);
    }

    private static String plain(String line) {
        return line.trim().replaceAll(" +", " ");
    }
}
