/** 'Terms' 3 and promises 14, 15 and 37 at their edges; each method stands for a sentence of the document. */
public final class StepsEdgesTest {
  private static final Check check = new Check("StepsEdgesTest");
  private static final Edge edge = new Edge(check);

  private static final Edge.Setting STEPS_AND_AGAIN = x -> {
    taken(x, 5);
    x.undo(0, 2);
  };

  public static void main(String[] args) {
    eachActIsOneStep();
    alsoIfItsTextStaysTheSame();
    noOtherActIsAStep();
    whatIsNotDoneIsNoStep();
    theNewest12();
    theOldestIsForgottenWithThe13th();
    theOldestIsForgottenWithThe13thOfEachKind();
    twelveAreCountedFromWhatWasTakenBack();
    undoAndRedoForgetNothing();
    newStepForgetsWhatCouldBeDoneAgain();
    undoOfFewerThanAsked();
    undoOfNone();
    redoOfFewerThanAsked();
    redoOfNone();
    lastTakenBackIsDoneAgainFirst();
    takenBackIsTheTextAhead();
    longestTextsTakenBack();
    stepsOfEachSheet();
    check.finish();
  }

  /** Letters "a" and on, put on sheet 0, a step each; and something in slot 0, row 0 and roll 3. */
  private static void taken(Manydoors x, int steps) {
    x.putLetter(3, 25, 0);
    x.keep(0, 3);
    x.takeRow(0, 3);
    for (int letter = 0; letter < steps; letter++) {
      x.putLetter(0, letter, 0);
    }
  }

  private static String letters(int many) {
    return Filled.LETTERS.substring(0, many);
  }

  /** Each of the twelve acts on sheet 0, with another text than "abc" behind it. */
  private static Edge.Call[] changing() {
    return new Edge.Call[] {
      x -> x.putLetter(0, 7, 0),
      x -> x.putText(0, 0, 0, 24, 0),
      x -> x.putKept(0, 0, 6),
      x -> x.putRow(0, 0, 0, 1),
      x -> x.pour(0, 0),
      x -> x.insert(0, 1, 0, 0, 24),
      x -> x.insertNumber(0, 2, -9999),
      x -> x.cut(0, 0, 120),
      x -> x.cutAt(0, 2),
      x -> x.change(0, 2, 31),
      x -> x.turn(0),
      x -> x.toLength(0, 120)
    };
  }

  /** Those of them behind which the text can be "z" still, if it was "z" and slot 0, row 0 and roll 3 have none. */
  private static Edge.Call[] keepingTheSame() {
    return new Edge.Call[] {
      x -> x.putText(0, 0, 24, 0, 0),
      x -> x.putKept(0, 1, 6),
      x -> x.putRow(0, 1, 0, 0),
      x -> x.pour(4, 0),
      x -> x.insert(0, 1, 0, 0, 0),
      x -> x.cut(0, 0, 0),
      x -> x.cut(0, 1, 120),
      x -> x.change(0, 0, 25),
      x -> x.turn(0),
      x -> x.toLength(0, 1)
    };
  }

  /** "Each ACT that puts on a SHEET, or changes its LEAF (..), makes one STEP of that SHEET". */
  private static void eachActIsOneStep() {
    Edge.Call[] acts = changing();
    for (int i = 0; i < acts.length; i++) {
      Manydoors x = new Manydoors();
      taken(x, 3);
      acts[i].on(x);
      String behind = x.text(0, 0);
      check.due("act " + i + " is one step", x.steps(0, false), 4);
      check.due("act " + i + " is another text", behind.equals("abc"), false);
      check.due("act " + i + " taken back", x.undo(0, 1), 1);
      check.due("act " + i + ", the text ahead", x.text(0, 0), "abc");
      check.due("act " + i + " done again", x.redo(0, 1), 1);
      check.due("act " + i + ", the text behind", x.text(0, 0), behind);
    }
  }

  /** "also if its text stays the same." */
  private static void alsoIfItsTextStaysTheSame() {
    Edge.Call[] acts = keepingTheSame();
    for (int i = 0; i < acts.length; i++) {
      Manydoors x = new Manydoors();
      x.putLetter(0, 25, 0);
      acts[i].on(x);
      check.due("act " + i + " keeps the text", x.text(0, 0), "z");
      check.due("act " + i + " is a step", x.steps(0, false), 2);
      check.due("the other sheets", x.steps(1, false) + x.steps(2, false), 0);
      check.due("act " + i + " taken back", x.undo(0, 1), 1);
      check.due("act " + i + " can be done again", x.steps(0, true), 1);
      check.due("the text ahead", x.text(0, 0), "z");
    }
  }

  /** The acts of rolls, slots, rows and presses, and those that only read a sheet, make no step and forget none. */
  private static void noOtherActIsAStep() {
    Edge.Call[] acts = {
      x -> x.putLetter(3, 0, 0),
      x -> x.putText(4, 0, 0, 3, 6),
      x -> x.putKept(5, 0, 6),
      x -> x.putRow(3, 0, 0, 1),
      x -> x.pour(0, 4),
      x -> x.reset(3),
      x -> x.mark(3),
      x -> x.back(3),
      x -> x.keep(1, 0),
      x -> x.keepPart(1, 0, 0, 1),
      x -> x.takeRow(1, 0),
      x -> x.changeRow(0, 0, 1),
      x -> x.begin(0, 4, 0),
      x -> x.feed(0, 0, 0, 9, 0),
      x -> x.feedLetter(0, 30, 0),
      x -> x.feedKept(0, 0, 0)
    };
    for (int i = 0; i < acts.length; i++) {
      Manydoors x = new Manydoors();
      STEPS_AND_AGAIN.on(x);
      acts[i].on(x);
      check.due("act " + i + " was done", x.house(1), 0);
      check.due("steps behind act " + i, x.steps(0, false) * 10 + x.steps(0, true), 32);
      check.due("other sheets behind act " + i, x.steps(1, false) + x.steps(2, false), 0);
    }
  }

  /** What tells -9 or throws makes no step, and what can be done again stays (all of it, text by text). */
  private static void whatIsNotDoneIsNoStep() {
    Edge.Setting full = x -> {
      Filled.open(x, 0, 120);
      x.keep(0, 0);
      x.cut(0, 0, 1);
      x.insertNumber(0, 0, 5);
      x.turn(0);
      x.undo(0, 1);
    };
    edge.refused("putLetter", full, x -> x.putLetter(0, 0, 0));
    edge.refused("putText", full, x -> x.putText(0, 0, 0, 1, 0));
    edge.refused("putKept", full, x -> x.putKept(0, 0, 0));
    edge.refused("putRow", full, x -> x.putRow(0, 0, 0, 1));
    edge.refused("pour", full, x -> x.pour(0, 0));
    edge.refused("insert", full, x -> x.insert(0, 3, 0, 0, 1));
    edge.refused("insertNumber", full, x -> x.insertNumber(0, 3, 0));
    edge.refused("cut", full, x -> x.cut(0, 2, 1));
    edge.refused("cutAt", full, x -> x.cutAt(0, 120));
    edge.refused("change", full, x -> x.change(0, 120, 0));
    edge.noIndex("turn", full, x -> x.turn(-1));
    edge.noArgument("toLength", full, x -> x.toLength(0, 121));
    edge.noArgument("undo", full, x -> x.undo(0, 13));
    edge.noArgument("redo", full, x -> x.redo(0, 0));
  }

  /** "Of the STEPS that can be taken back a SHEET keeps the newest 12": the 12th is kept beside all before it. */
  private static void theNewest12() {
    for (int sheet : Filled.SHEETS) {
      Manydoors x = new Manydoors();
      for (int letter = 0; letter < 12; letter++) {
        check.due("steps ahead", x.steps(sheet, false), letter);
        x.putLetter(sheet, letter, 0);
      }
      check.due("12 steps", x.steps(sheet, false), 12);
      check.due("12 taken back", x.undo(sheet, 12), 12);
      check.due("the text ahead of all", x.text(sheet, 0), "");
      check.due("none can be taken back", x.steps(sheet, false), 0);
      check.due("12 can be done again", x.steps(sheet, true), 12);
      check.due("12 done again", x.redo(sheet, 12), 12);
      check.due("the text behind all", x.text(sheet, 0), letters(12));
    }
  }

  /** "with a 13th one the oldest one is forgotten." */
  private static void theOldestIsForgottenWithThe13th() {
    for (int steps = 13; steps <= 26; steps++) {
      int many = steps;
      Manydoors x = edge.done("12 of " + steps, y -> taken(y, many), y -> y.undo(0, 12), 12);
      check.due("what cannot be taken back", x.text(0, 0), letters(steps - 12));
      check.due("none is left", x.undo(0, 1), -9);
      check.due("12 again", x.redo(0, 12), 12);
      check.due("all again", x.text(0, 0), letters(steps));
      check.due("none is left", x.redo(0, 1), -9);
    }
  }

  private static void theOldestIsForgottenWithThe13thOfEachKind() {
    Edge.Call[] acts = changing();
    for (int i = 0; i < acts.length; i++) {
      Manydoors x = new Manydoors();
      taken(x, 12);
      acts[i].on(x);
      check.due("steps behind act " + i, x.steps(0, false), 12);
      check.due("taken back behind act " + i, x.undo(0, 1), 1);
      check.due("ahead of act " + i, x.text(0, 0), letters(12));
      check.due("taken back behind act " + i, x.undo(0, 12), 11);
      check.due("the first step stays", x.text(0, 0), "a");
    }
    for (Edge.Call act : keepingTheSame()) {
      Manydoors x = new Manydoors();
      x.putLetter(0, 25, 0);
      for (int i = 0; i < 11; i++) {
        x.turn(0);
      }
      act.on(x);
      check.due("steps that keep the text", x.steps(0, false), 12);
      check.due("all taken back", x.undo(0, 12), 12);
      check.due("the first step stays, it is forgotten", x.text(0, 0), "z");
    }
  }

  /** Steps that were taken back do not count among the 12; the 12 are those that can be taken back. */
  private static void twelveAreCountedFromWhatWasTakenBack() {
    for (int more = 1; more <= 7; more++) {
      Manydoors x = new Manydoors();
      taken(x, 12);
      x.undo(0, 5);
      for (int i = 0; i < more; i++) {
        x.putLetter(0, 25, 0);
      }
      boolean isForgotten = 7 + more > 12;
      int back = isForgotten ? 12 : 7 + more;
      check.due(more + " steps behind 7", x.steps(0, false), back);
      check.due(more + " steps, again", x.steps(0, true), 0);
      check.due(more + " steps taken back", x.undo(0, 12), back);
      check.due(more + " steps, the first text", x.text(0, 0), letters(7 + more - back));
    }
  }

  /** "What is taken back can be done again, and the other way round." */
  private static void undoAndRedoForgetNothing() {
    Manydoors x = new Manydoors();
    taken(x, 14);
    for (int round = 0; round < 3; round++) {
      for (int many = 1; many <= 12; many++) {
        check.due("undo " + many, x.undo(0, many), many);
        check.due("text", x.text(0, 0), letters(14 - many));
        check.due("steps", x.steps(0, false) * 100 + x.steps(0, true), (12 - many) * 100 + many);
        check.due("redo " + many, x.redo(0, many), many);
        check.due("text", x.text(0, 0), letters(14));
      }
    }
  }

  /** "A new STEP forgets all that could be done again." */
  private static void newStepForgetsWhatCouldBeDoneAgain() {
    Edge.Call[] acts = changing();
    for (int i = 0; i < acts.length; i++) {
      Edge.Call act = acts[i];
      Edge.Setting forgotten = x -> {
        STEPS_AND_AGAIN.on(x);
        act.on(x);
      };
      edge.asked("none again behind act " + i, forgotten, x -> x.steps(0, true), 0);
      edge.asked("four back behind act " + i, forgotten, x -> x.steps(0, false), 4);
      edge.refused("redo behind act " + i, forgotten, x -> x.redo(0, 1));
    }
    for (Edge.Call act : keepingTheSame()) {
      Manydoors x = new Manydoors();
      x.putLetter(0, 25, 0);
      x.putLetter(0, 0, 0);
      x.undo(0, 1);
      act.on(x);
      check.due("none again, though the text is the same", x.steps(0, true), 0);
      check.due("redo", x.redo(0, 12), -9);
    }
    Manydoors x = new Manydoors();
    STEPS_AND_AGAIN.on(x);
    x.turn(1);
    check.due("a step of another sheet forgets none", x.steps(0, true), 2);
  }

  /** 14: "The newest STEPS are taken back, one by one; all, if they are fewer. Returns how many were". */
  private static void undoOfFewerThanAsked() {
    for (int steps = 1; steps <= 12; steps++) {
      for (int many : new int[] {1, steps, Math.min(steps + 1, 12), 12}) {
        int of = steps;
        int back = Math.min(steps, many);
        Manydoors x = edge.done("undo " + many + " of " + steps, y -> taken(y, of), y -> y.undo(0, many), back);
        check.due("text behind undo " + many + " of " + steps, x.text(0, 0), letters(steps - back));
        check.due("steps back", x.steps(0, false), steps - back);
        check.due("steps again", x.steps(0, true), back);
      }
    }
  }

  /** 14: "-9 if there is none that can be taken back." */
  private static void undoOfNone() {
    for (int sheet : Filled.SHEETS) {
      edge.refused("undo on a new object", Edge.NEW, x -> x.undo(sheet, 1));
      edge.refused("undo 12 on a new object", Edge.NEW, x -> x.undo(sheet, 12));
      edge.done("undo of one", x -> x.turn(sheet), x -> x.undo(sheet, 12), 1);
    }
    edge.refused("undo behind undo of all", x -> {
      taken(x, 3);
      x.undo(0, 3);
    }, x -> x.undo(0, 1));
    edge.refused("undo behind the 12 that are kept", x -> {
      taken(x, 13);
      x.undo(0, 12);
    }, x -> x.undo(0, 12));
    edge.refused("undo, though another sheet has steps", x -> taken(x, 3), x -> x.undo(1, 1));
  }

  /** 15: "STEPS taken back are done again ..; all, if they are fewer. Returns how many were". */
  private static void redoOfFewerThanAsked() {
    for (int steps = 1; steps <= 12; steps++) {
      for (int many : new int[] {1, steps, Math.min(steps + 1, 12), 12}) {
        int of = steps;
        int again = Math.min(steps, many);
        Edge.Setting takenBack = y -> {
          taken(y, 12);
          y.undo(0, of);
        };
        Manydoors x = edge.done("redo " + many + " of " + steps, takenBack, y -> y.redo(0, many), again);
        check.due("text behind redo " + many + " of " + steps, x.text(0, 0), letters(12 - steps + again));
        check.due("steps back", x.steps(0, false), 12 - steps + again);
        check.due("steps again", x.steps(0, true), steps - again);
      }
    }
  }

  /** 15: "-9 if there is none that can be done again." */
  private static void redoOfNone() {
    for (int sheet : Filled.SHEETS) {
      edge.refused("redo on a new object", Edge.NEW, x -> x.redo(sheet, 1));
      edge.refused("redo 12 behind a step", x -> x.turn(sheet), x -> x.redo(sheet, 12));
      edge.done("redo of one", x -> {
        x.turn(sheet);
        x.undo(sheet, 1);
      }, x -> x.redo(sheet, 12), 1);
    }
    edge.refused("redo behind redo of all", x -> {
      taken(x, 3);
      x.undo(0, 3);
      x.redo(0, 3);
    }, x -> x.redo(0, 1));
    edge.refused("redo, though another sheet could", STEPS_AND_AGAIN, x -> x.redo(1, 1));
  }

  /** 15: "that which was taken back last first". */
  private static void lastTakenBackIsDoneAgainFirst() {
    Manydoors x = new Manydoors();
    taken(x, 4);
    x.turn(0);
    x.undo(0, 1);
    x.undo(0, 3);
    check.due("all that were taken back", x.text(0, 0), "a");
    String[] due = {"ab", "abc", "abcd", "dcba"};
    for (String text : due) {
      check.due("one again", x.redo(0, 1), 1);
      check.due("its text", x.text(0, 0), text);
    }
  }

  /** "Taken back, the SHEET has the text that it had ahead of the STEP; done again, that behind it." */
  private static void takenBackIsTheTextAhead() {
    Edge.Call[] acts = changing();
    Manydoors x = new Manydoors();
    taken(x, 3);
    for (int i = 0; i < acts.length; i++) {
      // Three signs each time, so that every act can be done behind any other one.
      x.toLength(0, 3);
      x.change(0, 1, i);
      String ahead = x.text(0, 0);
      acts[i].on(x);
      String behind = x.text(0, 0);
      x.undo(0, 1);
      check.due("ahead of act " + i, x.text(0, 0), ahead);
      x.redo(0, 1);
      check.due("behind act " + i, x.text(0, 0), behind);
      check.due("three steps back from act " + i, x.undo(0, 1) + x.undo(0, 1) + x.undo(0, 1), 3);
      check.due("three steps again to act " + i, x.redo(0, 3), 3);
      check.due("act " + i + " again", x.text(0, 0), behind);
    }
    check.due("no act told -9", x.house(1), 0);
  }

  private static void longestTextsTakenBack() {
    Manydoors x = new Manydoors();
    Filled.open(x, 2, 120);
    x.turn(2);
    x.cut(2, 0, 120);
    x.toLength(2, 120);
    x.undo(2, 1);
    check.due("without a sign", x.text(2, 0), "");
    x.undo(2, 1);
    check.due("turned", x.text(2, 0), new StringBuilder(Filled.text(120)).reverse().toString());
    x.undo(2, 1);
    check.due("the longest", x.text(2, 0), Filled.text(120));
    x.redo(2, 12);
    check.due("blanks", x.text(2, 0), "\0".repeat(120));
  }

  /** 37: "Returns how many STEPS they are", of that sheet, 0 to 12 both ways. */
  private static void stepsOfEachSheet() {
    Edge.Setting steps = x -> {
      for (int i = 0; i < 12; i++) {
        x.turn(0);
        x.turn(1);
      }
      x.turn(1);
      x.undo(1, 12);
      x.putLetter(2, 0, 0);
      x.putLetter(2, 0, 0);
      x.undo(2, 1);
    };
    int[] back = {12, 0, 1};
    int[] again = {0, 12, 1};
    for (int sheet : Filled.SHEETS) {
      edge.asked("back, of " + sheet, steps, x -> x.steps(sheet, false), back[sheet]);
      edge.asked("again, of " + sheet, steps, x -> x.steps(sheet, true), again[sheet]);
      edge.asked("back, of a new " + sheet, Edge.NEW, x -> x.steps(sheet, false), 0);
      edge.asked("again, of a new " + sheet, Edge.NEW, x -> x.steps(sheet, true), 0);
    }
  }
}
