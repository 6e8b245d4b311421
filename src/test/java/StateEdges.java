/** Undo and the snapshot, the promises 15 to 18, and how long an object is used. */
final class StateEdges extends Edges {
  StateEdges(Check check, Doc doc) {
    super(check, doc);
  }

  @Override
  void run() {
    changesThatChangeNothing();
    whatIsSaved();
    whatIsNotSaved();
    mostSavedStates();
    undo();
    undoToTheEdge();
    keep();
    restore();
    restoreSaves();
    savedStates();
    manyCalls();
  }

  private void changesThatChangeNothing() {
    says("Input text", "Each method that is marked \"undoable\"");
    x.setBase(6);
    x.setFraction(0, 0, 1);
    x.add(0, 1);
    x.subtract(0, 1);
    x.shift(0, -3);
    due(5, () -> x.savedStates());
    enter("b6");
    due(6, () -> x.savedStates());
    fresh();
    x.keep();
    x.restore();
    due(1, () -> x.savedStates());
    x.setFraction(0, 1, 1);
    x.pay(0, 1, 1);
    due(3, () -> x.savedStates());
    // Each that throws saves nothing.
    badState(() -> x.pay(0, 1, 1));
    badState(() -> x.subtract(0, 1));
    badArgument(() -> x.setBase(1));
    noPlace(() -> x.add(0, 6));
    badArgument(() -> x.enter());
    due(3, () -> x.savedStates());
  }

  private void whatIsSaved() {
    says("Input text", "Each method that is marked \"undoable\"");
    for (int account = 0; account < 6; account++) {
      x.setFraction(account, account + 1, 7);
    }
    enter("b9;0=9");
    enter("0=1;1=1;2=1;3=1;4=1;5=1;b16");
    isFalse(() -> x.hasStopped());
    x.undo();
    for (int account = 0; account < 6; account++) {
      has(account, account + 1, 7);
    }
    due(9, () -> x.base());
    due(1, () -> x.stoppedPart());
    due(1, () -> x.whyStopped());
    x.setFraction(0, 0, 1);
    enter("0-1");
    due(3, () -> x.whyStopped());
    x.undo();
    due(1, () -> x.whyStopped());
    due(1, () -> x.stoppedPart());
    // A snapshot has the same.
    x.keep();
    enter("b2;0=1");
    isFalse(() -> x.hasStopped());
    x.restore();
    due(9, () -> x.base());
    has(0, 0, 1);
    has(5, 6, 7);
    due(1, () -> x.stoppedPart());
    due(1, () -> x.whyStopped());
    x.undo();
    isFalse(() -> x.hasStopped());
    due(2, () -> x.base());
  }

  private void whatIsNotSaved() {
    says("Input text", "Each method that is marked \"undoable\"");
    x.setBase(7);
    type("0=1");
    x.keep();
    x.setBase(8);
    x.keep();
    // Neither the buffer nor the snapshot comes back.
    x.undo();
    x.undo();
    due(3, () -> x.firstError());
    due(6, () -> x.base());
    due(8, () -> x.restore());
    due(3, () -> x.clearBuffer());
    type("0=2;");
    x.undo();
    x.restore();
    due(4, () -> x.clearBuffer());
    due(1, () -> x.savedStates());
    // What is saved was saved by a change, and by nothing else.
    x.append('b');
    x.clearBuffer();
    x.firstError();
    x.keep();
    x.digest();
    x.richest();
    due(1, () -> x.savedStates());
  }

  private void mostSavedStates() {
    says("Input text", "At most 6 states are saved");
    for (int base = 7; base <= 16; base++) {
      x.setBase(base);
      int saved = Math.min(base - 6, 6);
      due(saved, () -> x.savedStates());
    }
    for (int left = 5; left >= 0; left--) {
      int now = left;
      due(now, () -> x.undo());
      due(10 + now, () -> x.base());
    }
    badState(() -> x.undo());
    due(10, () -> x.base());
    fresh();
    for (int count = 1; count <= 6; count++) {
      x.setFraction(0, count, 1);
    }
    for (int left = 5; left >= 0; left--) {
      x.undo();
    }
    // Six are just as many as there may be: the first one is not dropped.
    has(0, 0, 1);
  }

  private void undo() {
    says(15, "Restores the latest saved state, and drops it");
    x.setBase(7);
    x.setBase(8);
    x.undo();
    due(7, () -> x.base());
    x.setBase(9);
    x.undo();
    due(7, () -> x.base());
    x.undo();
    due(6, () -> x.base());
    says(15, "Returns how many saved states are left");
    for (int count = 0; count < 6; count++) {
      x.setBase(7);
    }
    for (int left = 5; left >= 0; left--) {
      int now = left;
      due(now, () -> x.undo());
      due(now, () -> x.savedStates());
    }
  }

  private void undoToTheEdge() {
    says(15, "Throws IllegalStateException if there is none");
    badState(() -> x.undo());
    x.keep();
    type("b7");
    badState(() -> x.undo());
    x.enter();
    x.undo();
    badState(() -> x.undo());
    for (int count = 0; count < 7; count++) {
      x.setBase(8);
    }
    for (int count = 0; count < 6; count++) {
      x.undo();
    }
    badState(() -> x.undo());
    due(8, () -> x.base());
    // A ring of states would be filled, emptied and filled again.
    for (int round = 0; round < 5; round++) {
      x.setBase(9);
      x.setBase(10);
      x.setBase(11);
      x.setBase(12);
      x.undo();
      due(2, () -> x.undo());
      due(10, () -> x.base());
      x.undo();
      x.undo();
      badState(() -> x.undo());
      due(8, () -> x.base());
    }
  }

  private void keep() {
    says(16, "Takes a snapshot, in place of the one before");
    x.keep();
    x.setBase(7);
    x.setFraction(5, 1, 2);
    x.keep();
    x.setBase(8);
    x.setFraction(5, 1, 3);
    due(7, () -> x.restore());
    has(5, 1, 2);
    due(7, () -> x.restore());
    says(16, "Returns the base");
    due(6, () -> x.keep());
    x.setBase(2);
    due(2, () -> x.keep());
    x.setBase(16);
    due(16, () -> x.keep());
    due(2, () -> x.savedStates());
  }

  private void restore() {
    says(17, "Restores the state of the snapshot, which stays");
    x.setFraction(0, 1, 2);
    x.keep();
    // Changes behind the snapshot do not change it.
    x.setFraction(0, 1, 3);
    x.restore();
    has(0, 1, 2);
    x.setFraction(0, 1, 4);
    x.restore();
    has(0, 1, 2);
    x.undo();
    has(0, 1, 4);
    x.restore();
    has(0, 1, 2);
    says(17, "Returns the base then");
    x.setBase(2);
    x.keep();
    x.setBase(16);
    due(2, () -> x.restore());
    due(2, () -> x.restore());
    says(17, "Throws IllegalStateException if there is no snapshot");
    badState(() -> x.restore());
    x.setBase(7);
    badState(() -> x.restore());
    x.undo();
    badState(() -> x.restore());
    due(0, () -> x.savedStates());
    x.keep();
    due(6, () -> x.restore());
  }

  private void restoreSaves() {
    says(17, "Undoable");
    x.keep();
    for (int base = 7; base <= 12; base++) {
      x.setBase(base);
    }
    x.restore();
    due(6, () -> x.base());
    due(6, () -> x.savedStates());
    due(5, () -> x.undo());
    due(12, () -> x.base());
    // The oldest one, with the base 6, was dropped by restore().
    for (int left = 4; left >= 0; left--) {
      int now = left;
      due(now, () -> x.undo());
      due(7 + now, () -> x.base());
    }
  }

  private void savedStates() {
    says(18, "Returns the number of saved states");
    due(0, () -> x.savedStates());
    x.keep();
    due(0, () -> x.savedStates());
    for (int count = 1; count <= 9; count++) {
      x.restore();
      int saved = Math.min(count, 6);
      due(saved, () -> x.savedStates());
    }
  }

  private void manyCalls() {
    says("What it is", "An object is used for at most 512 calls");
    for (int calls = 1; calls <= 509; calls++) {
      x.setFraction(calls % 6, calls, 997);
    }
    due(5, () -> x.undo());
    has(509 % 6, 503, 997);
    fresh();
    for (int calls = 1; calls <= 511; calls++) {
      x.setFraction(calls % 6, calls, 997);
    }
    due(997, () -> x.setFraction(0, 512, 997));
  }
}
