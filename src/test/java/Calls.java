/** The calls of the document's face by their names, on LockstepNet and on the second writing. */
final class Calls {
    private Calls() {
    }

    static int on(LockstepNet real, String name, int... v) {
        switch (name) {
            case "net" -> real.net(v[0]);
            case "link" -> {
                return real.link(v[0], v[1]);
            }
            case "word" -> {
                return real.word(v[0], v[1], v[2], v[3], v[4]);
            }
            case "builtin" -> {
                return real.builtin(v[0]);
            }
            case "cutAt" -> real.cutAt(v[0]);
            case "check" -> {
                return real.check();
            }
            case "input" -> real.input(v[0], v[1], v[2]);
            case "lockstep" -> real.lockstep(v[0]);
            case "plain" -> {
                return real.plain(v[0], v[1]);
            }
            case "prepare" -> {
                return real.prepare(v[0], v[1]);
            }
            case "release" -> real.release();
            case "stopAt" -> real.stopAt(v[0]);
            case "letters" -> {
                return real.letters();
            }
            case "letter" -> {
                return real.letter(v[0], v[1]);
            }
            case "deliver" -> {
                return real.deliver(v[0]);
            }
            case "deliverAll" -> {
                return real.deliverAll(v[0], v[1], v[2]);
            }
            case "switchTo" -> {
                return real.switchTo(v[0]);
            }
            case "roundOf" -> {
                return real.roundOf(v[0]);
            }
            case "value" -> {
                return real.value(v[0], v[1]);
            }
            case "place" -> {
                return real.place(v[0], v[1]);
            }
            case "chosen" -> {
                return real.chosen(v[0], v[1]);
            }
            case "count" -> {
                return real.count(v[0]);
            }
            default -> throw new AssertionError(name);
        }
        return 0;
    }

    static int on(Model model, String name, int... v) {
        switch (name) {
            case "net" -> model.net(v[0]);
            case "link" -> {
                return model.link(v[0], v[1]);
            }
            case "word" -> {
                return model.word(v[0], v[1], v[2], v[3], v[4]);
            }
            case "builtin" -> {
                return model.builtin(v[0]);
            }
            case "cutAt" -> model.cutAt(v[0]);
            case "check" -> {
                return model.check();
            }
            case "input" -> model.input(v[0], v[1], v[2]);
            case "lockstep" -> model.lockstep(v[0]);
            case "plain" -> {
                return model.plain(v[0], v[1]);
            }
            case "prepare" -> {
                return model.prepare(v[0], v[1]);
            }
            case "release" -> model.release();
            case "stopAt" -> model.stopAt(v[0]);
            case "letters" -> {
                return model.letters();
            }
            case "letter" -> {
                return model.letter(v[0], v[1]);
            }
            case "deliver" -> {
                return model.deliver(v[0]);
            }
            case "deliverAll" -> {
                return model.deliverAll(v[0], v[1], v[2]);
            }
            case "switchTo" -> {
                return model.switchTo(v[0]);
            }
            case "roundOf" -> {
                return model.roundOf(v[0]);
            }
            case "value" -> {
                return model.value(v[0], v[1]);
            }
            case "place" -> {
                return model.place(v[0], v[1]);
            }
            case "chosen" -> {
                return model.chosen(v[0], v[1]);
            }
            case "count" -> {
                return model.count(v[0]);
            }
            default -> throw new AssertionError(name);
        }
        return 0;
    }
}
