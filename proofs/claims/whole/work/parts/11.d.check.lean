/-! THE CODE LISTS ARE THE BYTES (by program: wip/whole/chkgen.py) -/
theorem ok_180 : mv_okM 180 = true := by decide +kernel
theorem oc_180 : mv_okC 180 1433 = true := by decide +kernel
theorem ok_181 : mv_okM 181 = true := by decide +kernel
theorem oc_181 : mv_okC 181 1441 = true := by decide +kernel
theorem ok_182 : mv_okM 182 = true := by decide +kernel
theorem oc_182 : mv_okC 182 1437 = true := by decide +kernel
theorem ok_183 : mv_okM 183 = true := by decide +kernel
theorem oc_183 : mv_okC 183 1457 = true := by decide +kernel
theorem ok_184 : mv_okM 184 = true := by decide +kernel
theorem oc_184 : mv_okC 184 1449 = true := by decide +kernel
theorem ok_185 : mv_okM 185 = true := by decide +kernel
theorem oc_185 : mv_okC 185 1453 = true := by decide +kernel
theorem ok_186 : mv_okM 186 = true := by decide +kernel
theorem oc_186 : mv_okC 186 1445 = true := by decide +kernel
theorem ok_187 : mv_okM 187 = true := by decide +kernel
theorem oc_187 : mv_okC 187 1466 = true := by decide +kernel
theorem ok_188 : mv_okM 188 = true := by decide +kernel
theorem oc_188 : mv_okC 188 1461 = true := by decide +kernel
theorem ok_189 : mv_okM 189 = true := by decide +kernel
theorem oc_189 : mv_okC 189 1486 = true := by decide +kernel
theorem ok_190 : mv_okM 190 = true := by decide +kernel
theorem oc_190 : mv_okC 190 1483 = true := by decide +kernel
theorem ok_191 : mv_okM 191 = true := by decide +kernel
theorem oc_191 : mv_okC 191 1490 = true := by decide +kernel
theorem ok_192 : mv_okM 192 = true := by decide +kernel
theorem oc_192 : mv_okC 192 1494 = true := by decide +kernel
theorem ok_193 : mv_okM 193 = true := by decide +kernel
theorem oc_193 : mv_okC 193 1478 = true := by decide +kernel
theorem ok_194 : mv_okM 194 = true := by decide +kernel
theorem oc_194 : mv_okC 194 1499 = true := by decide +kernel
theorem ok_195 : mv_okM 195 = true := by decide +kernel
theorem oc_195 : mv_okC 195 1474 = true := by decide +kernel
theorem ok_196 : mv_okM 196 = true := by decide +kernel
theorem oc_196 : mv_okC 196 1470 = true := by decide +kernel
theorem ok_197 : mv_okM 197 = true := by decide +kernel
theorem oc_197 : mv_okC 197 1504 = true := by decide +kernel
theorem ok_198 : mv_okM 198 = true := by decide +kernel
theorem oc_198 : mv_okC 198 1508 = true := by decide +kernel
theorem ok_199 : mv_okM 199 = true := by decide +kernel
theorem oc_199 : mv_okC 199 1516 = true := by decide +kernel
theorem ok_200 : mv_okM 200 = true := by decide +kernel
theorem oc_200 : mv_okC 200 1512 = true := by decide +kernel
theorem ok_201 : mv_okM 201 = true := by decide +kernel
theorem oc_201 : mv_okC 201 1520 = true := by decide +kernel
theorem ok_202 : mv_okM 202 = true := by decide +kernel
theorem oc_202 : mv_okC 202 1529 = true := by decide +kernel
theorem ok_203 : mv_okM 203 = true := by decide +kernel
theorem oc_203 : mv_okC 203 1533 = true := by decide +kernel
theorem ok_204 : mv_okM 204 = true := by decide +kernel
theorem oc_204 : mv_okC 204 1537 = true := by decide +kernel
theorem ok_205 : mv_okM 205 = true := by decide +kernel
theorem oc_205 : mv_okC 205 1525 = true := by decide +kernel
theorem ok_206 : mv_okM 206 = true := by decide +kernel
theorem oc_206 : mv_okC 206 1545 = true := by decide +kernel
theorem ok_207 : mv_okM 207 = true := by decide +kernel
theorem oc_207 : mv_okC 207 1541 = true := by decide +kernel
theorem ok_208 : mv_okM 208 = true := by decide +kernel
theorem oc_208 : mv_okC 208 1549 = true := by decide +kernel
theorem ok_209 : mv_okM 209 = true := by decide +kernel
theorem oc_209 : mv_okC 209 1553 = true := by decide +kernel
theorem ok_210 : mv_okM 210 = true := by decide +kernel
theorem oc_210 : mv_okC 210 1557 = true := by decide +kernel
theorem ok_211 : mv_okM 211 = true := by decide +kernel
theorem oc_211 : mv_okC 211 1562 = true := by decide +kernel
theorem ok_212 : mv_okM 212 = true := by decide +kernel
theorem oc_212 : mv_okC 212 1570 = true := by decide +kernel
theorem ok_213 : mv_okM 213 = true := by decide +kernel
theorem oc_213 : mv_okC 213 1566 = true := by decide +kernel
theorem ok_214 : mv_okM 214 = true := by decide +kernel
theorem oc_214 : mv_okC 214 1574 = true := by decide +kernel
theorem ok_215 : mv_okM 215 = true := by decide +kernel
theorem oc_215 : mv_okC 215 1578 = true := by decide +kernel
theorem ok_216 : mv_okM 216 = true := by decide +kernel
theorem oc_216 : mv_okC 216 1593 = true := by decide +kernel
theorem ok_217 : mv_okM 217 = true := by decide +kernel
theorem oc_217 : mv_okC 217 1597 = true := by decide +kernel
theorem ok_218 : mv_okM 218 = true := by decide +kernel
theorem oc_218 : mv_okC 218 1589 = true := by decide +kernel
theorem ok_219 : mv_okM 219 = true := by decide +kernel
theorem oc_219 : mv_okC 219 1585 = true := by decide +kernel
theorem ok_220 : mv_okM 220 = true := by decide +kernel
theorem oc_220 : mv_okC 220 1601 = true := by decide +kernel
theorem ok_221 : mv_okM 221 = true := by decide +kernel
theorem oc_221 : mv_okC 221 1605 = true := by decide +kernel
theorem ok_222 : mv_okM 222 = true := by decide +kernel
theorem oc_222 : mv_okC 222 772 = true := by decide +kernel
theorem ok_223 : mv_okM 223 = true := by decide +kernel
theorem oc_223 : mv_okC 223 857 = true := by decide +kernel
theorem ok_224 : mv_okM 224 = true := by decide +kernel
theorem oc_224 : mv_okC 224 779 = true := by decide +kernel
theorem ok_225 : mv_okM 225 = true := by decide +kernel
theorem oc_225 : mv_okC 225 776 = true := by decide +kernel
theorem ok_226 : mv_okM 226 = true := by decide +kernel
