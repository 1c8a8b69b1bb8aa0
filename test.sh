#!/bin/bash
# Compiles the class with every test of the project and runs each of them; needs javac and java alone.
cd "$(dirname "$0")" || exit 1
out=build/project
passed=0
failed=0

rm -rf "$out"
mkdir -p "$out"
javac -Xlint:all -Werror -d "$out" src/main/java/OrderedClauses.java src/test/java/*.java || exit 1
for test in src/test/java/*Test.java; do
    name=$(basename "$test" .java)
    if java -cp "$out" "$name"; then
        passed=$((passed + 1))
    else
        echo "FAILED: $name"
        failed=$((failed + 1))
    fi
done

echo "tests of the project: $passed passed, $failed failed"
[ "$failed" -eq 0 ] && [ "$passed" -gt 0 ]
