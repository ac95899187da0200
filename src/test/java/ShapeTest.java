import java.io.File;
import java.io.PrintWriter;
import java.io.StringWriter;
import java.net.URISyntaxException;
import java.util.ArrayList;
import java.util.HashSet;
import java.util.List;
import java.util.Map;
import java.util.Set;
import java.util.TreeMap;
import java.util.TreeSet;
import java.util.regex.Matcher;
import java.util.regex.Pattern;
import java.util.spi.ToolProvider;

/** Rules of LANGUAGE.md that the compiled class shows better than its text: how deep calls go, and what of the library they use. */
public final class ShapeTest {
    private static final Set<String> LIBRARY = Set.of("Math.abs", "Math.floorDiv", "Math.floorMod", "Math.max", "Math.min", "Object.<init>",
        "String.charAt", "String.indexOf", "String.length", "System.arraycopy", "Arrays.fill");
    private static final Pattern CLASS = Pattern.compile("^(?:\\w+ )*class ([\\w$]+).*");
    private static final Pattern METHOD = Pattern.compile("^  [\\w\\[\\]$., ]*?([\\w$]+)\\([^)]*\\);$");
    private static final Pattern CALL = Pattern.compile(".*// (?:Interface)?Method (?:([\\w$/]+)\\.)?\"?([\\w$<>]+)\"?:.*");
    private static final Pattern BANNED = Pattern.compile("^ *\\d+: (athrow|checkcast|instanceof|invokedynamic|monitorenter)\\b.*");

    private static final Map<String, Set<String>> calls = new TreeMap<>();
    private static final Set<String> used = new TreeSet<>();

    public static void main(String[] args) throws URISyntaxException {
        readCalls(bytecode());
        Kit.due("methods found", calls.containsKey("PillarDesk.feed") && calls.size() > 100 ? 1 : 0, 1);
        used.removeAll(LIBRARY);
        Kit.due("of the library, not listed: " + used, used.size(), 0);
        for (String method : calls.keySet()) {
            List<String> chain = longest(method);
            Kit.due("calls that are no recursion: " + chain, chain.size() <= 8 ? 1 : 0, 1);
        }
        for (String method : calls.keySet()) {
            boolean ofReader = method.startsWith("PillarDesk$Reader.read");
            Kit.due(method + " calls itself, by the reader's rules alone", reached(method).contains(method) && !ofReader ? 1 : 0, 0);
        }
        Kit.end();
    }

    private static String bytecode() throws URISyntaxException {
        File room = new File(PillarDesk.class.getProtectionDomain().getCodeSource().getLocation().toURI());
        List<String> args = new ArrayList<>(List.of("-c", "-p"));
        for (File f : room.listFiles()) {
            if (f.getName().matches("PillarDesk(\\$\\w+)?\\.class")) {
                args.add(f.getPath());
            }
        }
        StringWriter text = new StringWriter();
        PrintWriter out = new PrintWriter(text);
        Kit.due("javap", ToolProvider.findFirst("javap").orElseThrow().run(out, out, args.toArray(new String[0])), 0);
        out.flush();
        return text.toString();
    }

    private static void readCalls(String bytecode) {
        String type = "";
        String method = "";
        for (String line : bytecode.split("\r?\n")) {
            Matcher begins = CLASS.matcher(line);
            Matcher heads = METHOD.matcher(line);
            Matcher call = CALL.matcher(line);
            Kit.due(method + ": " + line, BANNED.matcher(line).matches() ? 1 : 0, 0);
            if (begins.matches()) {
                type = begins.group(1);
            } else if (heads.matches()) {
                method = type + "." + (heads.group(1).equals(type) ? "<init>" : heads.group(1));
                calls.computeIfAbsent(method, m -> new TreeSet<>());
            } else if (call.matches()) {
                String owner = call.group(1) == null ? type : call.group(1);
                if (owner.startsWith("PillarDesk")) {
                    calls.get(method).add(owner + "." + call.group(2));
                } else {
                    used.add(owner.substring(owner.lastIndexOf('/') + 1) + "." + call.group(2));
                }
            }
        }
    }

    private static Set<String> reached(String method) {
        Set<String> all = new HashSet<>();
        List<String> open = new ArrayList<>(calls.getOrDefault(method, Set.of()));
        while (!open.isEmpty()) {
            String next = open.remove(open.size() - 1);
            if (all.add(next)) {
                open.addAll(calls.getOrDefault(next, Set.of()));
            }
        }
        return all;
    }

    private static final Map<String, List<String>> known = new TreeMap<>();

    /** The longest chain of calls from a method on; those that recurse are stepped through, but not counted. */
    private static List<String> longest(String method) {
        List<String> before = known.get(method);
        if (before != null) {
            return before;
        }
        boolean recurses = reached(method).contains(method);
        Set<String> ring = new TreeSet<>(Set.of(method));
        for (String other : reached(method)) {
            if (recurses && reached(other).contains(method)) {
                ring.add(other);
            }
        }
        List<String> best = List.of();
        for (String part : ring) {
            for (String next : calls.getOrDefault(part, Set.of())) {
                List<String> chain = ring.contains(next) ? List.of() : longest(next);
                best = chain.size() > best.size() ? chain : best;
            }
        }
        List<String> all = new ArrayList<>(recurses ? List.of() : List.of(method));
        all.addAll(best);
        known.put(method, all);
        return all;
    }
}
