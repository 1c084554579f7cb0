/-! THE CODE LISTS ARE THE BYTES (by program: wip/whole/chkgen.py) -/
theorem ok_205 : mv_okM 205 = true := by decide +kernel
theorem oc_205 : mv_okC 205 1525 = true := by decide +kernel
theorem ok_206 : mv_okM 206 = true := by decide +kernel
theorem oc_206 : mv_okC 206 1545 = true := by decide +kernel
theorem ok_207 : mv_okM 207 = true := by decide +kernel
theorem oc_207 : mv_okC 207 1541 = true := by decide +kernel
theorem ok_208 : mv_okM 208 = true := by decide +kernel
theorem oc_208 : mv_okC 208 1549 = true := by decide +kernel
theorem ok_209 : mv_okM 209 = true := by decide +kernel
theorem oc_209 : mv_okC 209 1553 = true := by decide +kernel
theorem ok_210 : mv_okM 210 = true := by decide +kernel
theorem oc_210 : mv_okC 210 1557 = true := by decide +kernel
theorem ok_211 : mv_okM 211 = true := by decide +kernel
theorem oc_211 : mv_okC 211 1562 = true := by decide +kernel
theorem ok_212 : mv_okM 212 = true := by decide +kernel
theorem oc_212 : mv_okC 212 1570 = true := by decide +kernel
theorem ok_213 : mv_okM 213 = true := by decide +kernel
theorem oc_213 : mv_okC 213 1566 = true := by decide +kernel
theorem ok_214 : mv_okM 214 = true := by decide +kernel
theorem oc_214 : mv_okC 214 1574 = true := by decide +kernel
theorem ok_215 : mv_okM 215 = true := by decide +kernel
theorem oc_215 : mv_okC 215 1578 = true := by decide +kernel
theorem ok_216 : mv_okM 216 = true := by decide +kernel
theorem oc_216 : mv_okC 216 1593 = true := by decide +kernel
theorem ok_217 : mv_okM 217 = true := by decide +kernel
theorem oc_217 : mv_okC 217 1597 = true := by decide +kernel
theorem ok_218 : mv_okM 218 = true := by decide +kernel
theorem oc_218 : mv_okC 218 1589 = true := by decide +kernel
theorem ok_219 : mv_okM 219 = true := by decide +kernel
theorem oc_219 : mv_okC 219 1585 = true := by decide +kernel
theorem ok_220 : mv_okM 220 = true := by decide +kernel
theorem oc_220 : mv_okC 220 1601 = true := by decide +kernel
theorem ok_221 : mv_okM 221 = true := by decide +kernel
theorem oc_221 : mv_okC 221 1605 = true := by decide +kernel
theorem ok_222 : mv_okM 222 = true := by decide +kernel
theorem oc_222 : mv_okC 222 772 = true := by decide +kernel
theorem ok_223 : mv_okM 223 = true := by decide +kernel
theorem oc_223 : mv_okC 223 857 = true := by decide +kernel
theorem ok_224 : mv_okM 224 = true := by decide +kernel
theorem oc_224 : mv_okC 224 779 = true := by decide +kernel
theorem ok_225 : mv_okM 225 = true := by decide +kernel
theorem oc_225 : mv_okC 225 776 = true := by decide +kernel
