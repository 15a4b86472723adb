/** One call of the public face, to be made on an object or on the model. */
record Call(String method, int stream, int first, int second, int third) {
    static Call piece(int stream, int offset, int length, int bytes) {
        return new Call("piece", stream, offset, length, bytes);
    }

    static Call finish(int stream, int end) {
        return new Call("finish", stream, end, 0, 0);
    }

    static Call read(int stream) {
        return new Call("read", stream, 0, 0, 0);
    }

    static Call gap(int stream, int number) {
        return new Call("gap", stream, number, 0, 0);
    }

    /** A call that takes a stream alone. */
    static Call of(String method, int stream) {
        return new Call(method, stream, 0, 0, 0);
    }

    int on(StreamAssembler x) {
        return switch (method) {
            case "piece" -> x.piece(stream, first, second, third);
            case "finish" -> x.finish(stream, first);
            case "read" -> x.read(stream);
            case "readable" -> x.readable(stream);
            case "highest" -> x.highest(stream);
            case "gaps" -> x.gaps(stream);
            case "gap" -> x.gap(stream, first);
            case "allowed" -> x.allowed(stream);
            case "complete" -> x.complete(stream);
            default -> throw new IllegalArgumentException(method);
        };
    }

    int on(Model model) {
        return switch (method) {
            case "piece" -> model.piece(stream, first, second, third);
            case "finish" -> model.finish(stream, first);
            case "read" -> model.read(stream);
            case "readable" -> model.readable(stream);
            case "highest" -> model.highest(stream);
            case "gaps" -> model.gaps(stream);
            case "gap" -> model.gap(stream, first);
            case "allowed" -> model.allowed(stream);
            case "complete" -> model.complete(stream);
            default -> throw new IllegalArgumentException(method);
        };
    }

    @Override
    public String toString() {
        return switch (method) {
            case "piece" -> "piece(" + stream + ", " + first + ", " + second + ", " + third + ")";
            case "finish", "gap" -> method + "(" + stream + ", " + first + ")";
            default -> method + "(" + stream + ")";
        };
    }
}
