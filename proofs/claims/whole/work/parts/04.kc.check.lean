/-! THE CODE LISTS ARE THE BYTES (by program: wip/whole/chkgen.py) -/
theorem ok_120 : mv_okM 120 = true := by decide +kernel
theorem oc_120 : mv_okC 120 961 = true := by decide +kernel
theorem ok_121 : mv_okM 121 = true := by decide +kernel
theorem oc_121 : mv_okC 121 981 = true := by decide +kernel
theorem ok_122 : mv_okM 122 = true := by decide +kernel
theorem oc_122 : mv_okC 122 989 = true := by decide +kernel
theorem ok_123 : mv_okM 123 = true := by decide +kernel
theorem oc_123 : mv_okC 123 997 = true := by decide +kernel
theorem ok_124 : mv_okM 124 = true := by decide +kernel
theorem oc_124 : mv_okC 124 1020 = true := by decide +kernel
theorem ok_125 : mv_okM 125 = true := by decide +kernel
theorem oc_125 : mv_okC 125 1024 = true := by decide +kernel
theorem ok_126 : mv_okM 126 = true := by decide +kernel
theorem oc_126 : mv_okC 126 511 = true := by decide +kernel
theorem ok_127 : mv_okM 127 = true := by decide +kernel
theorem oc_127 : mv_okC 127 704 = true := by decide +kernel
theorem ok_128 : mv_okM 128 = true := by decide +kernel
theorem oc_128 : mv_okC 128 578 = true := by decide +kernel
theorem ok_129 : mv_okM 129 = true := by decide +kernel
theorem oc_129 : mv_okC 129 677 = true := by decide +kernel
theorem ok_130 : mv_okM 130 = true := by decide +kernel
theorem oc_130 : mv_okC 130 685 = true := by decide +kernel
theorem ok_131 : mv_okM 131 = true := by decide +kernel
theorem oc_131 : mv_okC 131 688 = true := by decide +kernel
theorem ok_132 : mv_okM 132 = true := by decide +kernel
theorem oc_132 : mv_okC 132 1037 = true := by decide +kernel
theorem ok_133 : mv_okM 133 = true := by decide +kernel
theorem oc_133 : mv_okC 133 1247 = true := by decide +kernel
theorem ok_134 : mv_okM 134 = true := by decide +kernel
theorem oc_134 : mv_okC 134 1368 = true := by decide +kernel
theorem ok_135 : mv_okM 135 = true := by decide +kernel
theorem oc_135 : mv_okC 135 1269 = true := by decide +kernel
theorem ok_136 : mv_okM 136 = true := by decide +kernel
theorem oc_136 : mv_okC 136 1243 = true := by decide +kernel
theorem ok_137 : mv_okM 137 = true := by decide +kernel
theorem oc_137 : mv_okC 137 1239 = true := by decide +kernel
theorem ok_138 : mv_okM 138 = true := by decide +kernel
theorem oc_138 : mv_okC 138 1264 = true := by decide +kernel
theorem ok_139 : mv_okM 139 = true := by decide +kernel
theorem oc_139 : mv_okC 139 1260 = true := by decide +kernel
theorem ok_140 : mv_okM 140 = true := by decide +kernel
theorem oc_140 : mv_okC 140 1256 = true := by decide +kernel
theorem ok_141 : mv_okM 141 = true := by decide +kernel
theorem oc_141 : mv_okC 141 1252 = true := by decide +kernel
theorem ok_142 : mv_okM 142 = true := by decide +kernel
theorem oc_142 : mv_okC 142 1277 = true := by decide +kernel
theorem ok_143 : mv_okM 143 = true := by decide +kernel
theorem oc_143 : mv_okC 143 1319 = true := by decide +kernel
theorem ok_144 : mv_okM 144 = true := by decide +kernel
theorem oc_144 : mv_okC 144 1581 = true := by decide +kernel
theorem ok_145 : mv_okM 145 = true := by decide +kernel
theorem oc_145 : mv_okC 145 1273 = true := by decide +kernel
theorem ok_146 : mv_okM 146 = true := by decide +kernel
theorem oc_146 : mv_okC 146 1288 = true := by decide +kernel
theorem ok_147 : mv_okM 147 = true := by decide +kernel
theorem oc_147 : mv_okC 147 1293 = true := by decide +kernel
theorem ok_148 : mv_okM 148 = true := by decide +kernel
theorem oc_148 : mv_okC 148 1297 = true := by decide +kernel
theorem ok_149 : mv_okM 149 = true := by decide +kernel
theorem oc_149 : mv_okC 149 1285 = true := by decide +kernel
theorem ok_150 : mv_okM 150 = true := by decide +kernel
theorem oc_150 : mv_okC 150 1301 = true := by decide +kernel
theorem ok_151 : mv_okM 151 = true := by decide +kernel
theorem oc_151 : mv_okC 151 1306 = true := by decide +kernel
theorem ok_152 : mv_okM 152 = true := by decide +kernel
theorem oc_152 : mv_okC 152 1327 = true := by decide +kernel
theorem ok_153 : mv_okM 153 = true := by decide +kernel
theorem oc_153 : mv_okC 153 1314 = true := by decide +kernel
theorem ok_154 : mv_okM 154 = true := by decide +kernel
theorem oc_154 : mv_okC 154 1323 = true := by decide +kernel
theorem ok_155 : mv_okM 155 = true := by decide +kernel
theorem oc_155 : mv_okC 155 1310 = true := by decide +kernel
theorem ok_156 : mv_okM 156 = true := by decide +kernel
theorem oc_156 : mv_okC 156 1281 = true := by decide +kernel
theorem ok_157 : mv_okM 157 = true := by decide +kernel
theorem oc_157 : mv_okC 157 1331 = true := by decide +kernel
theorem ok_158 : mv_okM 158 = true := by decide +kernel
theorem oc_158 : mv_okC 158 1353 = true := by decide +kernel
theorem ok_159 : mv_okM 159 = true := by decide +kernel
theorem oc_159 : mv_okC 159 1373 = true := by decide +kernel
theorem ok_160 : mv_okM 160 = true := by decide +kernel
theorem oc_160 : mv_okC 160 1344 = true := by decide +kernel
theorem ok_161 : mv_okM 161 = true := by decide +kernel
theorem oc_161 : mv_okC 161 1335 = true := by decide +kernel
theorem ok_162 : mv_okM 162 = true := by decide +kernel
theorem oc_162 : mv_okC 162 1340 = true := by decide +kernel
theorem ok_163 : mv_okM 163 = true := by decide +kernel
theorem oc_163 : mv_okC 163 1349 = true := by decide +kernel
theorem ok_164 : mv_okM 164 = true := by decide +kernel
theorem oc_164 : mv_okC 164 1358 = true := by decide +kernel
theorem ok_165 : mv_okM 165 = true := by decide +kernel
theorem oc_165 : mv_okC 165 1389 = true := by decide +kernel
theorem ok_166 : mv_okM 166 = true := by decide +kernel
theorem oc_166 : mv_okC 166 1393 = true := by decide +kernel
theorem ok_167 : mv_okM 167 = true := by decide +kernel
theorem oc_167 : mv_okC 167 1397 = true := by decide +kernel
theorem ok_168 : mv_okM 168 = true := by decide +kernel
theorem oc_168 : mv_okC 168 1385 = true := by decide +kernel
theorem ok_169 : mv_okM 169 = true := by decide +kernel
theorem oc_169 : mv_okC 169 1381 = true := by decide +kernel
theorem ok_170 : mv_okM 170 = true := by decide +kernel
theorem oc_170 : mv_okC 170 1377 = true := by decide +kernel
theorem ok_171 : mv_okM 171 = true := by decide +kernel
theorem oc_171 : mv_okC 171 1364 = true := by decide +kernel
theorem ok_172 : mv_okM 172 = true := by decide +kernel
theorem oc_172 : mv_okC 172 1409 = true := by decide +kernel
theorem ok_173 : mv_okM 173 = true := by decide +kernel
theorem oc_173 : mv_okC 173 1405 = true := by decide +kernel
theorem ok_174 : mv_okM 174 = true := by decide +kernel
theorem oc_174 : mv_okC 174 1401 = true := by decide +kernel
theorem ok_175 : mv_okM 175 = true := by decide +kernel
theorem oc_175 : mv_okC 175 1421 = true := by decide +kernel
theorem ok_176 : mv_okM 176 = true := by decide +kernel
theorem oc_176 : mv_okC 176 1417 = true := by decide +kernel
theorem ok_177 : mv_okM 177 = true := by decide +kernel
theorem oc_177 : mv_okC 177 1413 = true := by decide +kernel
theorem ok_178 : mv_okM 178 = true := by decide +kernel
theorem oc_178 : mv_okC 178 1429 = true := by decide +kernel
theorem ok_179 : mv_okM 179 = true := by decide +kernel
theorem oc_179 : mv_okC 179 1425 = true := by decide +kernel
