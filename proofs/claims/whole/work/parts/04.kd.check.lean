/-! THE CODE LISTS ARE THE BYTES (by program: wip/whole/chkgen.py) -/
theorem ok_180 : mv_okM 180 = true := by decide +kernel
theorem oc_180 : mv_okC 180 1433 = true := by decide +kernel
theorem ok_181 : mv_okM 181 = true := by decide +kernel
theorem oc_181 : mv_okC 181 1441 = true := by decide +kernel
theorem ok_182 : mv_okM 182 = true := by decide +kernel
theorem oc_182 : mv_okC 182 1437 = true := by decide +kernel
theorem ok_183 : mv_okM 183 = true := by decide +kernel
theorem oc_183 : mv_okC 183 1457 = true := by decide +kernel
theorem ok_184 : mv_okM 184 = true := by decide +kernel
theorem oc_184 : mv_okC 184 1449 = true := by decide +kernel
theorem ok_185 : mv_okM 185 = true := by decide +kernel
theorem oc_185 : mv_okC 185 1453 = true := by decide +kernel
theorem ok_186 : mv_okM 186 = true := by decide +kernel
theorem oc_186 : mv_okC 186 1445 = true := by decide +kernel
theorem ok_187 : mv_okM 187 = true := by decide +kernel
theorem oc_187 : mv_okC 187 1466 = true := by decide +kernel
theorem ok_188 : mv_okM 188 = true := by decide +kernel
theorem oc_188 : mv_okC 188 1461 = true := by decide +kernel
theorem ok_189 : mv_okM 189 = true := by decide +kernel
theorem oc_189 : mv_okC 189 1486 = true := by decide +kernel
theorem ok_190 : mv_okM 190 = true := by decide +kernel
theorem oc_190 : mv_okC 190 1483 = true := by decide +kernel
theorem ok_191 : mv_okM 191 = true := by decide +kernel
theorem oc_191 : mv_okC 191 1490 = true := by decide +kernel
theorem ok_192 : mv_okM 192 = true := by decide +kernel
theorem oc_192 : mv_okC 192 1494 = true := by decide +kernel
theorem ok_193 : mv_okM 193 = true := by decide +kernel
theorem oc_193 : mv_okC 193 1478 = true := by decide +kernel
theorem ok_194 : mv_okM 194 = true := by decide +kernel
theorem oc_194 : mv_okC 194 1499 = true := by decide +kernel
theorem ok_195 : mv_okM 195 = true := by decide +kernel
theorem oc_195 : mv_okC 195 1474 = true := by decide +kernel
theorem ok_196 : mv_okM 196 = true := by decide +kernel
theorem oc_196 : mv_okC 196 1470 = true := by decide +kernel
theorem ok_197 : mv_okM 197 = true := by decide +kernel
theorem oc_197 : mv_okC 197 1504 = true := by decide +kernel
theorem ok_198 : mv_okM 198 = true := by decide +kernel
theorem oc_198 : mv_okC 198 1508 = true := by decide +kernel
theorem ok_199 : mv_okM 199 = true := by decide +kernel
theorem oc_199 : mv_okC 199 1516 = true := by decide +kernel
theorem ok_200 : mv_okM 200 = true := by decide +kernel
theorem oc_200 : mv_okC 200 1512 = true := by decide +kernel
theorem ok_201 : mv_okM 201 = true := by decide +kernel
theorem oc_201 : mv_okC 201 1520 = true := by decide +kernel
theorem ok_202 : mv_okM 202 = true := by decide +kernel
theorem oc_202 : mv_okC 202 1529 = true := by decide +kernel
theorem ok_203 : mv_okM 203 = true := by decide +kernel
theorem oc_203 : mv_okC 203 1533 = true := by decide +kernel
theorem ok_204 : mv_okM 204 = true := by decide +kernel
theorem oc_204 : mv_okC 204 1537 = true := by decide +kernel
