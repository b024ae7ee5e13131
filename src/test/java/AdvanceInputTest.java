/** Promise 5. A comment in quotes is the sentence of the document that the test below it holds. */
public final class AdvanceInputTest {
    private static final Check CHECK = new Check();

    public static void main(String[] args) {
        workerNotInRange();
        epochNotInRange();
        withoutCapability();
        withoutCapabilityAfterDrop();
        epochLimit();
        replacesOneCapability();
        oneAfterTheOther();
        seventeenthEntry();
        sixteenthEntry();
        bothChangesCountTogether();
        buffersOfOthersDoNotCount();
        nothingElseChanges();
        testsComeInOrder();
        CHECK.end();
    }

    /** "w is not in range [...]: answers BAD_ARG" */
    private static void workerNotInRange() {
        for (int workers = 1; workers <= 4; workers++) {
            int all = workers;
            for (int w : Check.outside(workers)) {
                CHECK.changesNothing("advanceInput(" + w + ", 0) of " + all, () -> new ProgressTracker(all),
                    t -> t.advanceInput(w, 0), -1);
                CHECK.changesNothing("advanceInput(" + w + ", 1) of " + all, () -> Runs.busy(all),
                    t -> t.advanceInput(w, 1), -1);
            }
            String last = "[" + (all - 1) + "]";
            CHECK.step("advanceInput by the last of " + all, () -> new ProgressTracker(all),
                t -> t.advanceInput(all - 1, 0), 0, moved(last, 0));
        }
    }

    /** "epoch is not in 0..3: answers BAD_ARG" */
    private static void epochNotInRange() {
        for (int epoch : Check.OUTSIDE) {
            for (int e = 0; e < 4; e++) {
                int stands = e;
                CHECK.changesNothing("advanceInput(0, " + epoch + ") at " + e, () -> Runs.everywhere(2, stands),
                    t -> t.advanceInput(0, epoch), -1);
            }
        }
    }

    /** What an advance from this epoch changes, when nothing was pending at both epochs. */
    private static String[] moved(String worker, int epoch) {
        String old = worker + Stamp.name(Stamp.at(0, epoch, 0));
        String next = worker + Stamp.name(Stamp.at(0, epoch + 1, 0));
        return new String[] {"caps" + old + " 1->0", "caps" + next + " 0->1",
            "pending" + old + " 0->-1", "pending" + next + " 0->1"};
    }

    /** "caps[w][(0,epoch,0)] == 0: answers NO_CAPABILITY" */
    private static void withoutCapability() {
        for (int e = 0; e < 4; e++) {
            for (int asked = 0; asked < 4; asked++) {
                int stands = e;
                int epoch = asked;
                if (asked != e) {
                    CHECK.changesNothing("advanceInput(0, " + asked + ") at " + e, () -> Runs.everywhere(3, stands),
                        t -> t.advanceInput(0, epoch), -2);
                    CHECK.changesNothing("advanceInput(1, " + asked + ") at " + e, () -> Runs.everywhere(3, stands),
                        t -> t.advanceInput(1, epoch), -2);
                }
            }
        }
    }

    private static void withoutCapabilityAfterDrop() {
        for (int e = 0; e < 4; e++) {
            for (int asked = 0; asked < 4; asked++) {
                int stood = e;
                int epoch = asked;
                CHECK.changesNothing("advanceInput(0, " + asked + ") after a drop at " + e, () -> dropped(stood),
                    t -> t.advanceInput(0, epoch), -2);
            }
        }
    }

    private static ProgressTracker dropped(int epoch) {
        ProgressTracker x = Runs.everywhere(2, epoch);
        Runs.need(x.drop(0, 0, epoch, 0), 0);
        return x;
    }

    /** "epoch == 3: answers EPOCH_LIMIT" */
    private static void epochLimit() {
        for (int workers = 1; workers <= 4; workers++) {
            int all = workers;
            for (int w = 0; w < workers; w++) {
                int worker = w;
                CHECK.changesNothing("advanceInput(" + w + ", 3) of " + all, () -> Runs.everywhere(all, 3),
                    t -> t.advanceInput(worker, 3), -5);
            }
        }
    }

    /** "caps[w][(0,epoch,0)] and pending[w][(0,epoch,0)] each decrease by 1", "[...] each increase by 1" */
    private static void replacesOneCapability() {
        for (int e = 0; e < 3; e++) {
            int epoch = e;
            CHECK.step("advanceInput(1, " + e + ")", () -> Runs.everywhere(3, epoch), t -> t.advanceInput(1, epoch), 0,
                moved("[1]", e));
        }
    }

    private static void oneAfterTheOther() {
        ProgressTracker x = new ProgressTracker(3);
        CHECK.call(x, "advanceInput(1, 0)", t -> t.advanceInput(1, 0), 0, moved("[1]", 0));
        CHECK.call(x, "advanceInput(1, 0) again", t -> t.advanceInput(1, 0), -2);
        CHECK.call(x, "advanceInput(1, 1)", t -> t.advanceInput(1, 1), 0,
            "caps[1](0,1,0) 1->0", "caps[1](0,2,0) 0->1", "pending[1](0,1,0) 1->0", "pending[1](0,2,0) 0->1");
        Runs.settle(x, 1);
        CHECK.call(x, "advanceInput(1, 2)", t -> t.advanceInput(1, 2), 0, moved("[1]", 2));
        CHECK.call(x, "advanceInput(1, 3)", t -> t.advanceInput(1, 3), -5);
        CHECK.call(x, "advanceInput(2, 0)", t -> t.advanceInput(2, 0), 0, moved("[2]", 0));
    }

    /** Worker 0 of 2 stands at this epoch with n pending entries, none of them at SOURCE. */
    private static ProgressTracker buffer(int epoch, int n) {
        ProgressTracker x = Runs.everywhere(2, epoch);
        Runs.fillPending(x, 0, n);
        return x;
    }

    /**
     * "The pending entries of w, after adding -1 at (0,epoch,0) and +1 at (0,epoch+1,0), would exceed 16: answers
     * PENDING_FULL."
     */
    private static void seventeenthEntry() {
        for (int e = 0; e < 3; e++) {
            int epoch = e;
            CHECK.changesNothing("an advance from " + e + " to a 16th and 17th entry", () -> buffer(epoch, 15),
                t -> t.advanceInput(0, epoch), -6);
            CHECK.changesNothing("an advance from " + e + " to a 17th and 18th entry", () -> buffer(epoch, 16),
                t -> t.advanceInput(0, epoch), -6);
        }
    }

    private static void sixteenthEntry() {
        for (int e = 0; e < 3; e++) {
            int epoch = e;
            CHECK.step("an advance from " + e + " to a 15th and 16th entry", () -> buffer(epoch, 14),
                t -> t.advanceInput(0, epoch), 0, moved("[0]", e));
            CHECK.step("an advance from " + e + " to a 14th and 15th entry", () -> buffer(epoch, 13),
                t -> t.advanceInput(0, epoch), 0, moved("[0]", e));
        }
    }

    /** An advance that was not broadcast yet has left +1 at its epoch: the next frees that entry and takes one. */
    private static void bothChangesCountTogether() {
        for (int e = 1; e < 3; e++) {
            int epoch = e;
            String old = "[0]" + Stamp.name(Stamp.at(0, e, 0));
            String next = "[0]" + Stamp.name(Stamp.at(0, e + 1, 0));
            for (int n = 14; n <= 16; n++) {
                int entries = n;
                CHECK.step("an advance that frees one of " + n + " entries", () -> advanced(epoch, entries),
                    t -> t.advanceInput(0, epoch), 0, "caps" + old + " 1->0", "caps" + next + " 0->1",
                    "pending" + old + " 1->0", "pending" + next + " 0->1");
                ProgressTracker x = advanced(epoch, entries);
                Runs.need(x.advanceInput(0, epoch), 0);
                CHECK.due("entries after it", Runs.entries(x, 0), n);
            }
        }
    }

    private static ProgressTracker advanced(int epoch, int n) {
        ProgressTracker x = Runs.everywhere(2, epoch - 1);
        Runs.need(x.advanceInput(0, epoch - 1), 0);
        Runs.fillPending(x, 0, n);
        return x;
    }

    private static void buffersOfOthersDoNotCount() {
        for (int w = 0; w < 3; w++) {
            int worker = w;
            CHECK.step("advanceInput by " + w + " beside full buffers", () -> allFullBut(worker),
                t -> t.advanceInput(worker, 1), 0, moved("[" + w + "]", 1));
        }
    }

    private static ProgressTracker allFullBut(int worker) {
        ProgressTracker x = Runs.everywhere(4, 1);
        for (int w = 0; w < 4; w++) {
            Runs.fillPending(x, w, w == worker ? 14 : 16);
        }
        return x;
    }

    /** "Message counts, views, channels and other workers do not change." */
    private static void nothingElseChanges() {
        for (int w = 0; w < 3; w++) {
            int worker = w;
            CHECK.step("advanceInput(" + w + ", 1) in a busy state", () -> Runs.busy(4),
                t -> t.advanceInput(worker, 1), 0, moved("[" + w + "]", 1));
        }
    }

    /** "Tests, in order" */
    private static void testsComeInOrder() {
        CHECK.changesNothing("bad worker before no capability", () -> dropped(0), t -> t.advanceInput(2, 0), -1);
        CHECK.changesNothing("bad epoch before no capability", () -> dropped(0), t -> t.advanceInput(0, 4), -1);
        CHECK.changesNothing("bad epoch below 0", () -> dropped(0), t -> t.advanceInput(0, -1), -1);
        for (int w : Check.outside(2)) {
            CHECK.changesNothing("bad worker " + w + " before epoch limit", () -> Runs.everywhere(2, 3),
                t -> t.advanceInput(w, 3), -1);
            CHECK.changesNothing("bad worker " + w + " before full pending", () -> buffer(1, 16),
                t -> t.advanceInput(w, 1), -1);
        }
        CHECK.changesNothing("worker 4 of 4 before epoch limit", () -> Runs.everywhere(4, 3),
            t -> t.advanceInput(4, 3), -1);
        CHECK.changesNothing("bad epoch before full pending", () -> buffer(1, 16), t -> t.advanceInput(0, 4), -1);
        noCapabilityBeforeTheRest();
        epochLimitBeforeFullPending();
    }

    private static void noCapabilityBeforeTheRest() {
        for (int e = 0; e < 3; e++) {
            int stands = e;
            CHECK.changesNothing("no capability before epoch limit at " + e, () -> Runs.everywhere(2, stands),
                t -> t.advanceInput(0, 3), -2);
            CHECK.changesNothing("no capability before epoch limit and full pending at " + e,
                () -> buffer(stands, 16), t -> t.advanceInput(0, 3), -2);
            for (int asked = 0; asked < 3; asked++) {
                int epoch = asked;
                if (asked != e) {
                    CHECK.changesNothing("no capability at " + asked + " before full pending", () -> buffer(stands, 16),
                        t -> t.advanceInput(0, epoch), -2);
                }
            }
        }
    }

    /** SOURCE in epoch 4 has no pointstamp, and an index made of it would be that of HEAD (0,0). */
    private static void epochLimitBeforeFullPending() {
        int mistaken = Stamp.at(ProgressTracker.HEAD, 0, 0);
        CHECK.changesNothing("epoch limit before full pending", () -> buffer(3, 16), t -> t.advanceInput(0, 3), -5);
        CHECK.changesNothing("epoch limit before full pending without HEAD (0,0)", () -> {
            ProgressTracker x = Runs.everywhere(2, 3);
            Runs.fillPending(x, 0, 16, mistaken);
            return x;
        }, t -> t.advanceInput(0, 3), -5);
        CHECK.changesNothing("epoch limit with a 16th entry to take", () -> buffer(3, 15), t -> t.advanceInput(0, 3), -5);
        CHECK.changesNothing("epoch limit where an advance would free an entry", () -> advanced(3, 16),
            t -> t.advanceInput(0, 3), -5);
    }
}
