set_option maxRecDepth 100000 in
theorem kv_100 : ab_vt km_100 kt_100 = true := by decide +kernel
set_option maxRecDepth 100000 in
theorem kw_100 : ab_vm km_100 299 109 = true := by decide +kernel
theorem kk_100 : ab_mok ab_pg 100 km_100 := ab_vm_ok (t := kt_100) rfl kw_100 kv_100 trivial
set_option maxRecDepth 100000 in
theorem kv_101 : ab_vt km_101 kt_101 = true := by decide +kernel
set_option maxRecDepth 100000 in
theorem kw_101 : ab_vm km_101 327 110 = true := by decide +kernel
theorem kk_101 : ab_mok ab_pg 101 km_101 := ab_vm_ok (t := kt_101) rfl kw_101 kv_101 trivial
set_option maxRecDepth 100000 in
theorem kv_102 : ab_vt km_102 kt_102 = true := by decide +kernel
set_option maxRecDepth 100000 in
theorem kw_102 : ab_vm km_102 353 111 = true := by decide +kernel
theorem kk_102 : ab_mok ab_pg 102 km_102 := ab_vm_ok (t := kt_102) rfl kw_102 kv_102 trivial
set_option maxRecDepth 100000 in
theorem kv_103 : ab_vt km_103 kt_103 = true := by decide +kernel
set_option maxRecDepth 100000 in
theorem kw_103 : ab_vm km_103 370 112 = true := by decide +kernel
theorem kk_103 : ab_mok ab_pg 103 km_103 := ab_vm_ok (t := kt_103) rfl kw_103 kv_103 trivial
set_option maxRecDepth 100000 in
theorem kv_104 : ab_vt km_104 kt_104 = true := by decide +kernel
set_option maxRecDepth 100000 in
theorem kw_104 : ab_vm km_104 399 113 = true := by decide +kernel
theorem kk_104 : ab_mok ab_pg 104 km_104 := ab_vm_ok (t := kt_104) rfl kw_104 kv_104 trivial
set_option maxRecDepth 100000 in
theorem kv_105 : ab_vt km_105 kt_105 = true := by decide +kernel
set_option maxRecDepth 100000 in
theorem kw_105 : ab_vm km_105 440 114 = true := by decide +kernel
theorem kk_105 : ab_mok ab_pg 105 km_105 := ab_vm_ok (t := kt_105) rfl kw_105 kv_105 trivial
set_option maxRecDepth 100000 in
theorem kv_106 : ab_vt km_106 kt_106 = true := by decide +kernel
set_option maxRecDepth 100000 in
theorem kw_106 : ab_vm km_106 466 115 = true := by decide +kernel
theorem kk_106 : ab_mok ab_pg 106 km_106 := ab_vm_ok (t := kt_106) rfl kw_106 kv_106 trivial
set_option maxRecDepth 100000 in
theorem kv_107 : ab_vt km_107 kt_107 = true := by decide +kernel
set_option maxRecDepth 100000 in
theorem kw_107 : ab_vm km_107 1821 116 = true := by decide +kernel
theorem kk_107 : ab_mok ab_pg 107 km_107 := ab_vm_ok (t := kt_107) rfl kw_107 kv_107 trivial
set_option maxRecDepth 100000 in
theorem kv_108 : ab_vt km_108 kt_108 = true := by decide +kernel
set_option maxRecDepth 100000 in
theorem kw_108 : ab_vm km_108 1825 116 = true := by decide +kernel
theorem kk_108 : ab_mok ab_pg 108 km_108 := ab_vm_ok (t := kt_108) rfl kw_108 kv_108 trivial
set_option maxRecDepth 100000 in
theorem kv_109 : ab_vt km_109 kt_109 = true := by decide +kernel
set_option maxRecDepth 100000 in
theorem kw_109 : ab_vm km_109 547 104 = true := by decide +kernel
theorem kk_109 : ab_mok ab_pg 109 km_109 := ab_vm_ok (t := kt_109) rfl kw_109 kv_109 trivial
set_option maxRecDepth 100000 in
theorem kv_110 : ab_vt km_110 kt_110 = true := by decide +kernel
set_option maxRecDepth 100000 in
theorem kw_110 : ab_vm km_110 551 104 = true := by decide +kernel
theorem kk_110 : ab_mok ab_pg 110 km_110 := ab_vm_ok (t := kt_110) rfl kw_110 kv_110 trivial
set_option maxRecDepth 100000 in
theorem kv_111 : ab_vt km_111 kt_111 = true := by decide +kernel
set_option maxRecDepth 100000 in
theorem kw_111 : ab_vm km_111 1087 103 = true := by decide +kernel
theorem kk_111 : ab_mok ab_pg 111 km_111 := ab_vm_ok (t := kt_111) rfl kw_111 kv_111 trivial
set_option maxRecDepth 100000 in
theorem kv_112 : ab_vt km_112 kt_112 = true := by decide +kernel
set_option maxRecDepth 100000 in
theorem kw_112 : ab_vm km_112 1982 116 = true := by decide +kernel
theorem kk_112 : ab_mok ab_pg 112 km_112 := ab_vm_ok (t := kt_112) rfl kw_112 kv_112 trivial
set_option maxRecDepth 100000 in
theorem kv_113 : ab_vt km_113 kt_113 = true := by decide +kernel
set_option maxRecDepth 100000 in
theorem kw_113 : ab_vm km_113 1986 116 = true := by decide +kernel
theorem kk_113 : ab_mok ab_pg 113 km_113 := ab_vm_ok (t := kt_113) rfl kw_113 kv_113 trivial
set_option maxRecDepth 100000 in
theorem kv_114 : ab_vt km_114 kt_114 = true := by decide +kernel
set_option maxRecDepth 100000 in
theorem kw_114 : ab_vm km_114 1990 116 = true := by decide +kernel
theorem kk_114 : ab_mok ab_pg 114 km_114 := ab_vm_ok (t := kt_114) rfl kw_114 kv_114 trivial
set_option maxRecDepth 100000 in
theorem kv_115 : ab_vt km_115 kt_115 = true := by decide +kernel
set_option maxRecDepth 100000 in
theorem kw_115 : ab_vm km_115 2002 116 = true := by decide +kernel
theorem kk_115 : ab_mok ab_pg 115 km_115 := ab_vm_ok (t := kt_115) rfl kw_115 kv_115 trivial
set_option maxRecDepth 100000 in
theorem kv_116 : ab_vt km_116 kt_116 = true := by decide +kernel
set_option maxRecDepth 100000 in
theorem kw_116 : ab_vm km_116 1994 116 = true := by decide +kernel
theorem kk_116 : ab_mok ab_pg 116 km_116 := ab_vm_ok (t := kt_116) rfl kw_116 kv_116 trivial
set_option maxRecDepth 100000 in
theorem kv_117 : ab_vt km_117 kt_117 = true := by decide +kernel
set_option maxRecDepth 100000 in
theorem kw_117 : ab_vm km_117 2047 116 = true := by decide +kernel
theorem kk_117 : ab_mok ab_pg 117 km_117 := ab_vm_ok (t := kt_117) rfl kw_117 kv_117 trivial
set_option maxRecDepth 100000 in
theorem kv_118 : ab_vt km_118 kt_118 = true := by decide +kernel
set_option maxRecDepth 100000 in
theorem kw_118 : ab_vm km_118 1232 103 = true := by decide +kernel
theorem kk_118 : ab_mok ab_pg 118 km_118 := ab_vm_ok (t := kt_118) rfl kw_118 kv_118 trivial
set_option maxRecDepth 100000 in
theorem kv_119 : ab_vt km_119 kt_119 = true := by decide +kernel
set_option maxRecDepth 100000 in
theorem kw_119 : ab_vm km_119 2055 116 = true := by decide +kernel
theorem kk_119 : ab_mok ab_pg 119 km_119 := ab_vm_ok (t := kt_119) rfl kw_119 kv_119 trivial
set_option maxRecDepth 100000 in
theorem kv_120 : ab_vt km_120 kt_120 = true := by decide +kernel
set_option maxRecDepth 100000 in
theorem kw_120 : ab_vm km_120 2023 116 = true := by decide +kernel
theorem kk_120 : ab_mok ab_pg 120 km_120 := ab_vm_ok (t := kt_120) rfl kw_120 kv_120 trivial
set_option maxRecDepth 100000 in
theorem kv_121 : ab_vt km_121 kt_121 = true := by decide +kernel
set_option maxRecDepth 100000 in
theorem kw_121 : ab_vm km_121 1276 103 = true := by decide +kernel
theorem kk_121 : ab_mok ab_pg 121 km_121 := ab_vm_ok (t := kt_121) rfl kw_121 kv_121 trivial
set_option maxRecDepth 100000 in
theorem kv_122 : ab_vt km_122 kt_122 = true := by decide +kernel
set_option maxRecDepth 100000 in
theorem kw_122 : ab_vm km_122 2112 116 = true := by decide +kernel
theorem kk_122 : ab_mok ab_pg 122 km_122 := ab_vm_ok (t := kt_122) rfl kw_122 kv_122 trivial
set_option maxRecDepth 100000 in
theorem kv_123 : ab_vt km_123 kt_123 = true := by decide +kernel
set_option maxRecDepth 100000 in
theorem kw_123 : ab_vm km_123 2123 116 = true := by decide +kernel
theorem kk_123 : ab_mok ab_pg 123 km_123 := ab_vm_ok (t := kt_123) rfl kw_123 kv_123 trivial
set_option maxRecDepth 100000 in
theorem kv_124 : ab_vt km_124 kt_124 = true := by decide +kernel
set_option maxRecDepth 100000 in
theorem kw_124 : ab_vm km_124 2127 116 = true := by decide +kernel
theorem kk_124 : ab_mok ab_pg 124 km_124 := ab_vm_ok (t := kt_124) rfl kw_124 kv_124 trivial
set_option maxRecDepth 100000 in
theorem kv_125 : ab_vt km_125 kt_125 = true := by decide +kernel
set_option maxRecDepth 100000 in
theorem kw_125 : ab_vm km_125 1375 103 = true := by decide +kernel
theorem kk_125 : ab_mok ab_pg 125 km_125 := ab_vm_ok (t := kt_125) rfl kw_125 kv_125 trivial
set_option maxRecDepth 100000 in
theorem kv_126 : ab_vt km_126 kt_126 = true := by decide +kernel
set_option maxRecDepth 100000 in
theorem kw_126 : ab_vm km_126 2120 116 = true := by decide +kernel
theorem kk_126 : ab_mok ab_pg 126 km_126 := ab_vm_ok (t := kt_126) rfl kw_126 kv_126 trivial
set_option maxRecDepth 100000 in
theorem kv_127 : ab_vt km_127 kt_127 = true := by decide +kernel
set_option maxRecDepth 100000 in
theorem kw_127 : ab_vm km_127 2083 116 = true := by decide +kernel
theorem kk_127 : ab_mok ab_pg 127 km_127 := ab_vm_ok (t := kt_127) rfl kw_127 kv_127 trivial
set_option maxRecDepth 100000 in
theorem kv_128 : ab_vt km_128 kt_128 = true := by decide +kernel
set_option maxRecDepth 100000 in
theorem kw_128 : ab_vm km_128 2031 116 = true := by decide +kernel
theorem kk_128 : ab_mok ab_pg 128 km_128 := ab_vm_ok (t := kt_128) rfl kw_128 kv_128 trivial
set_option maxRecDepth 100000 in
theorem kv_129 : ab_vt km_129 kt_129 = true := by decide +kernel
set_option maxRecDepth 100000 in
theorem kw_129 : ab_vm km_129 2043 116 = true := by decide +kernel
theorem kk_129 : ab_mok ab_pg 129 km_129 := ab_vm_ok (t := kt_129) rfl kw_129 kv_129 trivial
set_option maxRecDepth 100000 in
theorem kv_130 : ab_vt km_130 kt_130 = true := by decide +kernel
set_option maxRecDepth 100000 in
theorem kw_130 : ab_vm km_130 563 115 = true := by decide +kernel
theorem kk_130 : ab_mok ab_pg 130 km_130 := ab_vm_ok (t := kt_130) rfl kw_130 kv_130 trivial
set_option maxRecDepth 100000 in
theorem kv_131 : ab_vt km_131 kt_131 = true := by decide +kernel
set_option maxRecDepth 100000 in
theorem kw_131 : ab_vm km_131 1401 103 = true := by decide +kernel
theorem kk_131 : ab_mok ab_pg 131 km_131 := ab_vm_ok (t := kt_131) rfl kw_131 kv_131 trivial
set_option maxRecDepth 100000 in
theorem kv_132 : ab_vt km_132 kt_132 = true := by decide +kernel
set_option maxRecDepth 100000 in
theorem kw_132 : ab_vm km_132 2195 116 = true := by decide +kernel
theorem kk_132 : ab_mok ab_pg 132 km_132 := ab_vm_ok (t := kt_132) rfl kw_132 kv_132 trivial
set_option maxRecDepth 100000 in
theorem kv_133 : ab_vt km_133 kt_133 = true := by decide +kernel
set_option maxRecDepth 100000 in
theorem kw_133 : ab_vm km_133 1413 103 = true := by decide +kernel
theorem kk_133 : ab_mok ab_pg 133 km_133 := ab_vm_ok (t := kt_133) rfl kw_133 kv_133 trivial
set_option maxRecDepth 100000 in
theorem kv_134 : ab_vt km_134 kt_134 = true := by decide +kernel
set_option maxRecDepth 100000 in
theorem kw_134 : ab_vm km_134 2203 116 = true := by decide +kernel
theorem kk_134 : ab_mok ab_pg 134 km_134 := ab_vm_ok (t := kt_134) rfl kw_134 kv_134 trivial
set_option maxRecDepth 100000 in
theorem kv_135 : ab_vt km_135 kt_135 = true := by decide +kernel
set_option maxRecDepth 100000 in
theorem kw_135 : ab_vm km_135 2144 116 = true := by decide +kernel
theorem kk_135 : ab_mok ab_pg 135 km_135 := ab_vm_ok (t := kt_135) rfl kw_135 kv_135 trivial
set_option maxRecDepth 100000 in
theorem kv_136 : ab_vt km_136 kt_136 = true := by decide +kernel
set_option maxRecDepth 100000 in
theorem kw_136 : ab_vm km_136 1441 103 = true := by decide +kernel
theorem kk_136 : ab_mok ab_pg 136 km_136 := ab_vm_ok (t := kt_136) rfl kw_136 kv_136 trivial
set_option maxRecDepth 100000 in
theorem kv_137 : ab_vt km_137 kt_137 = true := by decide +kernel
set_option maxRecDepth 100000 in
theorem kw_137 : ab_vm km_137 2211 116 = true := by decide +kernel
theorem kk_137 : ab_mok ab_pg 137 km_137 := ab_vm_ok (t := kt_137) rfl kw_137 kv_137 trivial
set_option maxRecDepth 100000 in
theorem kv_138 : ab_vt km_138 kt_138 = true := by decide +kernel
set_option maxRecDepth 100000 in
theorem kw_138 : ab_vm km_138 2214 116 = true := by decide +kernel
theorem kk_138 : ab_mok ab_pg 138 km_138 := ab_vm_ok (t := kt_138) rfl kw_138 kv_138 trivial
set_option maxRecDepth 100000 in
theorem kv_139 : ab_vt km_139 kt_139 = true := by decide +kernel
set_option maxRecDepth 100000 in
theorem kw_139 : ab_vm km_139 1459 103 = true := by decide +kernel
theorem kk_139 : ab_mok ab_pg 139 km_139 := ab_vm_ok (t := kt_139) rfl kw_139 kv_139 trivial
set_option maxRecDepth 100000 in
theorem kv_140 : ab_vt km_140 kt_140 = true := by decide +kernel
set_option maxRecDepth 100000 in
theorem kw_140 : ab_vm km_140 2221 116 = true := by decide +kernel
theorem kk_140 : ab_mok ab_pg 140 km_140 := ab_vm_ok (t := kt_140) rfl kw_140 kv_140 trivial
set_option maxRecDepth 100000 in
theorem kv_141 : ab_vt km_141 kt_141 = true := by decide +kernel
set_option maxRecDepth 100000 in
theorem kw_141 : ab_vm km_141 1466 103 = true := by decide +kernel
theorem kk_141 : ab_mok ab_pg 141 km_141 := ab_vm_ok (t := kt_141) rfl kw_141 kv_141 trivial
set_option maxRecDepth 100000 in
theorem kv_142 : ab_vt km_142 kt_142 = true := by decide +kernel
set_option maxRecDepth 100000 in
theorem kw_142 : ab_vm km_142 2229 116 = true := by decide +kernel
theorem kk_142 : ab_mok ab_pg 142 km_142 := ab_vm_ok (t := kt_142) rfl kw_142 kv_142 trivial
set_option maxRecDepth 100000 in
theorem kv_143 : ab_vt km_143 kt_143 = true := by decide +kernel
set_option maxRecDepth 100000 in
theorem kw_143 : ab_vm km_143 1481 103 = true := by decide +kernel
theorem kk_143 : ab_mok ab_pg 143 km_143 := ab_vm_ok (t := kt_143) rfl kw_143 kv_143 trivial
set_option maxRecDepth 100000 in
theorem kv_144 : ab_vt km_144 kt_144 = true := by decide +kernel
set_option maxRecDepth 100000 in
theorem kw_144 : ab_vm km_144 2141 116 = true := by decide +kernel
theorem kk_144 : ab_mok ab_pg 144 km_144 := ab_vm_ok (t := kt_144) rfl kw_144 kv_144 trivial
set_option maxRecDepth 100000 in
theorem kv_145 : ab_vt km_145 kt_145 = true := by decide +kernel
set_option maxRecDepth 100000 in
theorem kw_145 : ab_vm km_145 1492 103 = true := by decide +kernel
theorem kk_145 : ab_mok ab_pg 145 km_145 := ab_vm_ok (t := kt_145) rfl kw_145 kv_145 trivial
set_option maxRecDepth 100000 in
theorem kv_146 : ab_vt km_146 kt_146 = true := by decide +kernel
set_option maxRecDepth 100000 in
theorem kw_146 : ab_vm km_146 2168 116 = true := by decide +kernel
theorem kk_146 : ab_mok ab_pg 146 km_146 := ab_vm_ok (t := kt_146) rfl kw_146 kv_146 trivial
set_option maxRecDepth 100000 in
theorem kv_147 : ab_vt km_147 kt_147 = true := by decide +kernel
set_option maxRecDepth 100000 in
theorem kw_147 : ab_vm km_147 1500 103 = true := by decide +kernel
theorem kk_147 : ab_mok ab_pg 147 km_147 := ab_vm_ok (t := kt_147) rfl kw_147 kv_147 trivial
set_option maxRecDepth 100000 in
theorem kv_148 : ab_vt km_148 kt_148 = true := by decide +kernel
set_option maxRecDepth 100000 in
theorem kw_148 : ab_vm km_148 2091 116 = true := by decide +kernel
theorem kk_148 : ab_mok ab_pg 148 km_148 := ab_vm_ok (t := kt_148) rfl kw_148 kv_148 trivial
set_option maxRecDepth 100000 in
theorem kv_149 : ab_vt km_149 kt_149 = true := by decide +kernel
set_option maxRecDepth 100000 in
theorem kw_149 : ab_vm km_149 579 110 = true := by decide +kernel
theorem kk_149 : ab_mok ab_pg 149 km_149 := ab_vm_ok (t := kt_149) rfl kw_149 kv_149 trivial
set_option maxRecDepth 100000 in
theorem kv_150 : ab_vt km_150 kt_150 = true := by decide +kernel
set_option maxRecDepth 100000 in
theorem kw_150 : ab_vm km_150 2245 116 = true := by decide +kernel
theorem kk_150 : ab_mok ab_pg 150 km_150 := ab_vm_ok (t := kt_150) rfl kw_150 kv_150 trivial
set_option maxRecDepth 100000 in
theorem kv_151 : ab_vt km_151 kt_151 = true := by decide +kernel
set_option maxRecDepth 100000 in
theorem kw_151 : ab_vm km_151 1514 103 = true := by decide +kernel
theorem kk_151 : ab_mok ab_pg 151 km_151 := ab_vm_ok (t := kt_151) rfl kw_151 kv_151 trivial
set_option maxRecDepth 100000 in
theorem kv_152 : ab_vt km_152 kt_152 = true := by decide +kernel
set_option maxRecDepth 100000 in
theorem kw_152 : ab_vm km_152 2135 116 = true := by decide +kernel
theorem kk_152 : ab_mok ab_pg 152 km_152 := ab_vm_ok (t := kt_152) rfl kw_152 kv_152 trivial
set_option maxRecDepth 100000 in
theorem kv_153 : ab_vt km_153 kt_153 = true := by decide +kernel
set_option maxRecDepth 100000 in
theorem kw_153 : ab_vm km_153 1522 103 = true := by decide +kernel
theorem kk_153 : ab_mok ab_pg 153 km_153 := ab_vm_ok (t := kt_153) rfl kw_153 kv_153 trivial
set_option maxRecDepth 100000 in
theorem kv_154 : ab_vt km_154 kt_154 = true := by decide +kernel
set_option maxRecDepth 100000 in
theorem kw_154 : ab_vm km_154 2261 116 = true := by decide +kernel
theorem kk_154 : ab_mok ab_pg 154 km_154 := ab_vm_ok (t := kt_154) rfl kw_154 kv_154 trivial
set_option maxRecDepth 100000 in
theorem kv_155 : ab_vt km_155 kt_155 = true := by decide +kernel
set_option maxRecDepth 100000 in
theorem kw_155 : ab_vm km_155 1549 103 = true := by decide +kernel
theorem kk_155 : ab_mok ab_pg 155 km_155 := ab_vm_ok (t := kt_155) rfl kw_155 kv_155 trivial
set_option maxRecDepth 100000 in
theorem kv_156 : ab_vt km_156 kt_156 = true := by decide +kernel
set_option maxRecDepth 100000 in
theorem kw_156 : ab_vm km_156 1560 103 = true := by decide +kernel
theorem kk_156 : ab_mok ab_pg 156 km_156 := ab_vm_ok (t := kt_156) rfl kw_156 kv_156 trivial
set_option maxRecDepth 100000 in
theorem kv_157 : ab_vt km_157 kt_157 = true := by decide +kernel
set_option maxRecDepth 100000 in
theorem kw_157 : ab_vm km_157 2277 116 = true := by decide +kernel
theorem kk_157 : ab_mok ab_pg 157 km_157 := ab_vm_ok (t := kt_157) rfl kw_157 kv_157 trivial
set_option maxRecDepth 100000 in
theorem kv_158 : ab_vt km_158 kt_158 = true := by decide +kernel
set_option maxRecDepth 100000 in
theorem kw_158 : ab_vm km_158 2280 116 = true := by decide +kernel
theorem kk_158 : ab_mok ab_pg 158 km_158 := ab_vm_ok (t := kt_158) rfl kw_158 kv_158 trivial
set_option maxRecDepth 100000 in
theorem kv_159 : ab_vt km_159 kt_159 = true := by decide +kernel
set_option maxRecDepth 100000 in
theorem kw_159 : ab_vm km_159 630 113 = true := by decide +kernel
theorem kk_159 : ab_mok ab_pg 159 km_159 := ab_vm_ok (t := kt_159) rfl kw_159 kv_159 trivial
set_option maxRecDepth 100000 in
theorem kv_160 : ab_vt km_160 kt_160 = true := by decide +kernel
set_option maxRecDepth 100000 in
theorem kw_160 : ab_vm km_160 659 113 = true := by decide +kernel
theorem kk_160 : ab_mok ab_pg 160 km_160 := ab_vm_ok (t := kt_160) rfl kw_160 kv_160 trivial
set_option maxRecDepth 100000 in
theorem kv_161 : ab_vt km_161 kt_161 = true := by decide +kernel
set_option maxRecDepth 100000 in
theorem kw_161 : ab_vm km_161 667 113 = true := by decide +kernel
theorem kk_161 : ab_mok ab_pg 161 km_161 := ab_vm_ok (t := kt_161) rfl kw_161 kv_161 trivial
set_option maxRecDepth 100000 in
theorem kv_162 : ab_vt km_162 kt_162 = true := by decide +kernel
set_option maxRecDepth 100000 in
theorem kw_162 : ab_vm km_162 1007 113 = true := by decide +kernel
theorem kk_162 : ab_mok ab_pg 162 km_162 := ab_vm_ok (t := kt_162) rfl kw_162 kv_162 trivial
set_option maxRecDepth 100000 in
theorem kv_163 : ab_vt km_163 kt_163 = true := by decide +kernel
set_option maxRecDepth 100000 in
theorem kw_163 : ab_vm km_163 2296 116 = true := by decide +kernel
theorem kk_163 : ab_mok ab_pg 163 km_163 := ab_vm_ok (t := kt_163) rfl kw_163 kv_163 trivial
set_option maxRecDepth 100000 in
theorem kv_164 : ab_vt km_164 kt_164 = true := by decide +kernel
set_option maxRecDepth 100000 in
theorem kw_164 : ab_vm km_164 1577 103 = true := by decide +kernel
theorem kk_164 : ab_mok ab_pg 164 km_164 := ab_vm_ok (t := kt_164) rfl kw_164 kv_164 trivial
set_option maxRecDepth 100000 in
theorem kv_165 : ab_vt km_165 kt_165 = true := by decide +kernel
set_option maxRecDepth 100000 in
theorem kw_165 : ab_vm km_165 1589 103 = true := by decide +kernel
theorem kk_165 : ab_mok ab_pg 165 km_165 := ab_vm_ok (t := kt_165) rfl kw_165 kv_165 trivial
set_option maxRecDepth 100000 in
theorem kv_166 : ab_vt km_166 kt_166 = true := by decide +kernel
set_option maxRecDepth 100000 in
theorem kw_166 : ab_vm km_166 2312 116 = true := by decide +kernel
theorem kk_166 : ab_mok ab_pg 166 km_166 := ab_vm_ok (t := kt_166) rfl kw_166 kv_166 trivial
set_option maxRecDepth 100000 in
theorem kv_167 : ab_vt km_167 kt_167 = true := by decide +kernel
set_option maxRecDepth 100000 in
theorem kw_167 : ab_vm km_167 1015 108 = true := by decide +kernel
theorem kk_167 : ab_mok ab_pg 167 km_167 := ab_vm_ok (t := kt_167) rfl kw_167 kv_167 trivial
set_option maxRecDepth 100000 in
theorem kv_168 : ab_vt km_168 kt_168 = true := by decide +kernel
set_option maxRecDepth 100000 in
theorem kw_168 : ab_vm km_168 1653 103 = true := by decide +kernel
theorem kk_168 : ab_mok ab_pg 168 km_168 := ab_vm_ok (t := kt_168) rfl kw_168 kv_168 trivial
set_option maxRecDepth 100000 in
theorem kv_169 : ab_vt km_169 kt_169 = true := by decide +kernel
set_option maxRecDepth 100000 in
theorem kw_169 : ab_vm km_169 2324 116 = true := by decide +kernel
theorem kk_169 : ab_mok ab_pg 169 km_169 := ab_vm_ok (t := kt_169) rfl kw_169 kv_169 trivial
set_option maxRecDepth 100000 in
theorem kv_170 : ab_vt km_170 kt_170 = true := by decide +kernel
set_option maxRecDepth 100000 in
theorem kw_170 : ab_vm km_170 1024 110 = true := by decide +kernel
theorem kk_170 : ab_mok ab_pg 170 km_170 := ab_vm_ok (t := kt_170) rfl kw_170 kv_170 trivial
set_option maxRecDepth 100000 in
theorem kv_171 : ab_vt km_171 kt_171 = true := by decide +kernel
set_option maxRecDepth 100000 in
theorem kw_171 : ab_vm km_171 1662 103 = true := by decide +kernel
theorem kk_171 : ab_mok ab_pg 171 km_171 := ab_vm_ok (t := kt_171) rfl kw_171 kv_171 trivial
set_option maxRecDepth 100000 in
theorem kv_172 : ab_vt km_172 kt_172 = true := by decide +kernel
set_option maxRecDepth 100000 in
theorem kw_172 : ab_vm km_172 1669 103 = true := by decide +kernel
theorem kk_172 : ab_mok ab_pg 172 km_172 := ab_vm_ok (t := kt_172) rfl kw_172 kv_172 trivial
set_option maxRecDepth 100000 in
theorem kv_173 : ab_vt km_173 kt_173 = true := by decide +kernel
set_option maxRecDepth 100000 in
theorem kw_173 : ab_vm km_173 2340 116 = true := by decide +kernel
theorem kk_173 : ab_mok ab_pg 173 km_173 := ab_vm_ok (t := kt_173) rfl kw_173 kv_173 trivial
set_option maxRecDepth 100000 in
theorem kv_174 : ab_vt km_174 kt_174 = true := by decide +kernel
set_option maxRecDepth 100000 in
theorem kw_174 : ab_vm km_174 1040 109 = true := by decide +kernel
theorem kk_174 : ab_mok ab_pg 174 km_174 := ab_vm_ok (t := kt_174) rfl kw_174 kv_174 trivial
set_option maxRecDepth 100000 in
theorem kv_175 : ab_vt km_175 kt_175 = true := by decide +kernel
set_option maxRecDepth 100000 in
theorem kw_175 : ab_vm km_175 1676 103 = true := by decide +kernel
theorem kk_175 : ab_mok ab_pg 175 km_175 := ab_vm_ok (t := kt_175) rfl kw_175 kv_175 trivial
set_option maxRecDepth 100000 in
theorem kv_176 : ab_vt km_176 kt_176 = true := by decide +kernel
set_option maxRecDepth 100000 in
theorem kw_176 : ab_vm km_176 1683 103 = true := by decide +kernel
theorem kk_176 : ab_mok ab_pg 176 km_176 := ab_vm_ok (t := kt_176) rfl kw_176 kv_176 trivial
set_option maxRecDepth 100000 in
theorem kv_177 : ab_vt km_177 kt_177 = true := by decide +kernel
set_option maxRecDepth 100000 in
theorem kw_177 : ab_vm km_177 2364 116 = true := by decide +kernel
theorem kk_177 : ab_mok ab_pg 177 km_177 := ab_vm_ok (t := kt_177) rfl kw_177 kv_177 trivial
set_option maxRecDepth 100000 in
theorem kv_178 : ab_vt km_178 kt_178 = true := by decide +kernel
set_option maxRecDepth 100000 in
theorem kw_178 : ab_vm km_178 1695 103 = true := by decide +kernel
theorem kk_178 : ab_mok ab_pg 178 km_178 := ab_vm_ok (t := kt_178) rfl kw_178 kv_178 trivial
set_option maxRecDepth 100000 in
theorem kv_179 : ab_vt km_179 kt_179 = true := by decide +kernel
set_option maxRecDepth 100000 in
theorem kw_179 : ab_vm km_179 1710 103 = true := by decide +kernel
theorem kk_179 : ab_mok ab_pg 179 km_179 := ab_vm_ok (t := kt_179) rfl kw_179 kv_179 trivial
set_option maxRecDepth 100000 in
theorem kv_180 : ab_vt km_180 kt_180 = true := by decide +kernel
set_option maxRecDepth 100000 in
theorem kw_180 : ab_vm km_180 2171 116 = true := by decide +kernel
theorem kk_180 : ab_mok ab_pg 180 km_180 := ab_vm_ok (t := kt_180) rfl kw_180 kv_180 trivial
set_option maxRecDepth 100000 in
theorem kv_181 : ab_vt km_181 kt_181 = true := by decide +kernel
set_option maxRecDepth 100000 in
theorem kw_181 : ab_vm km_181 2175 116 = true := by decide +kernel
theorem kk_181 : ab_mok ab_pg 181 km_181 := ab_vm_ok (t := kt_181) rfl kw_181 kv_181 trivial
set_option maxRecDepth 100000 in
theorem kv_182 : ab_vt km_182 kt_182 = true := by decide +kernel
set_option maxRecDepth 100000 in
theorem kw_182 : ab_vm km_182 1721 103 = true := by decide +kernel
theorem kk_182 : ab_mok ab_pg 182 km_182 := ab_vm_ok (t := kt_182) rfl kw_182 kv_182 trivial
set_option maxRecDepth 100000 in
theorem kv_183 : ab_vt km_183 kt_183 = true := by decide +kernel
set_option maxRecDepth 100000 in
theorem kw_183 : ab_vm km_183 1728 103 = true := by decide +kernel
theorem kk_183 : ab_mok ab_pg 183 km_183 := ab_vm_ok (t := kt_183) rfl kw_183 kv_183 trivial
set_option maxRecDepth 100000 in
theorem kv_184 : ab_vt km_184 kt_184 = true := by decide +kernel
set_option maxRecDepth 100000 in
theorem kw_184 : ab_vm km_184 1739 103 = true := by decide +kernel
theorem kk_184 : ab_mok ab_pg 184 km_184 := ab_vm_ok (t := kt_184) rfl kw_184 kv_184 trivial
set_option maxRecDepth 100000 in
theorem kv_185 : ab_vt km_185 kt_185 = true := by decide +kernel
set_option maxRecDepth 100000 in
theorem kw_185 : ab_vm km_185 2344 116 = true := by decide +kernel
theorem kk_185 : ab_mok ab_pg 185 km_185 := ab_vm_ok (t := kt_185) rfl kw_185 kv_185 trivial
set_option maxRecDepth 100000 in
theorem kv_186 : ab_vt km_186 kt_186 = true := by decide +kernel
set_option maxRecDepth 100000 in
theorem kw_186 : ab_vm km_186 634 109 = true := by decide +kernel
theorem kk_186 : ab_mok ab_pg 186 km_186 := ab_vm_ok (t := kt_186) rfl kw_186 kv_186 trivial
set_option maxRecDepth 100000 in
theorem kv_187 : ab_vt km_187 kt_187 = true := by decide +kernel
set_option maxRecDepth 100000 in
theorem kw_187 : ab_vm km_187 1748 103 = true := by decide +kernel
theorem kk_187 : ab_mok ab_pg 187 km_187 := ab_vm_ok (t := kt_187) rfl kw_187 kv_187 trivial
set_option maxRecDepth 100000 in
theorem kv_188 : ab_vt km_188 kt_188 = true := by decide +kernel
set_option maxRecDepth 100000 in
theorem kw_188 : ab_vm km_188 1759 103 = true := by decide +kernel
theorem kk_188 : ab_mok ab_pg 188 km_188 := ab_vm_ok (t := kt_188) rfl kw_188 kv_188 trivial
set_option maxRecDepth 100000 in
theorem kv_189 : ab_vt km_189 kt_189 = true := by decide +kernel
set_option maxRecDepth 100000 in
theorem kw_189 : ab_vm km_189 1766 103 = true := by decide +kernel
theorem kk_189 : ab_mok ab_pg 189 km_189 := ab_vm_ok (t := kt_189) rfl kw_189 kv_189 trivial
set_option maxRecDepth 100000 in
theorem kv_190 : ab_vt km_190 kt_190 = true := by decide +kernel
set_option maxRecDepth 100000 in
theorem kw_190 : ab_vm km_190 2388 116 = true := by decide +kernel
theorem kk_190 : ab_mok ab_pg 190 km_190 := ab_vm_ok (t := kt_190) rfl kw_190 kv_190 trivial
set_option maxRecDepth 100000 in
theorem kv_191 : ab_vt km_191 kt_191 = true := by decide +kernel
set_option maxRecDepth 100000 in
theorem kw_191 : ab_vm km_191 1807 103 = true := by decide +kernel
theorem kk_191 : ab_mok ab_pg 191 km_191 := ab_vm_ok (t := kt_191) rfl kw_191 kv_191 trivial
set_option maxRecDepth 100000 in
theorem kv_192 : ab_vt km_192 kt_192 = true := by decide +kernel
set_option maxRecDepth 100000 in
theorem kw_192 : ab_vm km_192 2101 116 = true := by decide +kernel
theorem kk_192 : ab_mok ab_pg 192 km_192 := ab_vm_ok (t := kt_192) rfl kw_192 kv_192 trivial
set_option maxRecDepth 100000 in
theorem kv_193 : ab_vt km_193 kt_193 = true := by decide +kernel
set_option maxRecDepth 100000 in
theorem kw_193 : ab_vm km_193 2104 116 = true := by decide +kernel
theorem kk_193 : ab_mok ab_pg 193 km_193 := ab_vm_ok (t := kt_193) rfl kw_193 kv_193 trivial
set_option maxRecDepth 100000 in
theorem kv_194 : ab_vt km_194 kt_194 = true := by decide +kernel
set_option maxRecDepth 100000 in
theorem kw_194 : ab_vm km_194 1059 115 = true := by decide +kernel
theorem kk_194 : ab_mok ab_pg 194 km_194 := ab_vm_ok (t := kt_194) rfl kw_194 kv_194 trivial
set_option maxRecDepth 100000 in
theorem kv_195 : ab_vt km_195 kt_195 = true := by decide +kernel
set_option maxRecDepth 100000 in
theorem kw_195 : ab_vm km_195 2409 116 = true := by decide +kernel
theorem kk_195 : ab_mok ab_pg 195 km_195 := ab_vm_ok (t := kt_195) rfl kw_195 kv_195 trivial
set_option maxRecDepth 100000 in
theorem kv_196 : ab_vt km_196 kt_196 = true := by decide +kernel
set_option maxRecDepth 100000 in
theorem kw_196 : ab_vm km_196 1071 115 = true := by decide +kernel
theorem kk_196 : ab_mok ab_pg 196 km_196 := ab_vm_ok (t := kt_196) rfl kw_196 kv_196 trivial
set_option maxRecDepth 100000 in
theorem kv_197 : ab_vt km_197 kt_197 = true := by decide +kernel
set_option maxRecDepth 100000 in
theorem kw_197 : ab_vm km_197 1828 116 = true := by decide +kernel
theorem kk_197 : ab_mok ab_pg 197 km_197 := ab_vm_ok (t := kt_197) rfl kw_197 kv_197 trivial
set_option maxRecDepth 100000 in
theorem kv_198 : ab_vt km_198 kt_198 = true := by decide +kernel
set_option maxRecDepth 100000 in
theorem kw_198 : ab_vm km_198 1091 103 = true := by decide +kernel
theorem kk_198 : ab_mok ab_pg 198 km_198 := ab_vm_ok (t := kt_198) rfl kw_198 kv_198 trivial
set_option maxRecDepth 100000 in
theorem kv_199 : ab_vt km_199 kt_199 = true := by decide +kernel
set_option maxRecDepth 100000 in
theorem kw_199 : ab_vm km_199 1102 104 = true := by decide +kernel
theorem kk_199 : ab_mok ab_pg 199 km_199 := ab_vm_ok (t := kt_199) rfl kw_199 kv_199 trivial
set_option maxRecDepth 100000 in
theorem kv_200 : ab_vt km_200 kt_200 = true := by decide +kernel
set_option maxRecDepth 100000 in
theorem kw_200 : ab_vm km_200 1107 105 = true := by decide +kernel
theorem kk_200 : ab_mok ab_pg 200 km_200 := ab_vm_ok (t := kt_200) rfl kw_200 kv_200 trivial
set_option maxRecDepth 100000 in
theorem kv_201 : ab_vt km_201 kt_201 = true := by decide +kernel
set_option maxRecDepth 100000 in
theorem kw_201 : ab_vm km_201 1169 104 = true := by decide +kernel
theorem kk_201 : ab_mok ab_pg 201 km_201 := ab_vm_ok (t := kt_201) rfl kw_201 kv_201 trivial
set_option maxRecDepth 100000 in
theorem kv_202 : ab_vt km_202 kt_202 = true := by decide +kernel
set_option maxRecDepth 100000 in
theorem kw_202 : ab_vm km_202 1199 105 = true := by decide +kernel
theorem kk_202 : ab_mok ab_pg 202 km_202 := ab_vm_ok (t := kt_202) rfl kw_202 kv_202 trivial
set_option maxRecDepth 100000 in
theorem kv_203 : ab_vt km_203 kt_203 = true := by decide +kernel
set_option maxRecDepth 100000 in
theorem kw_203 : ab_vm km_203 1204 105 = true := by decide +kernel
theorem kk_203 : ab_mok ab_pg 203 km_203 := ab_vm_ok (t := kt_203) rfl kw_203 kv_203 trivial
set_option maxRecDepth 100000 in
theorem kv_204 : ab_vt km_204 kt_204 = true := by decide +kernel
set_option maxRecDepth 100000 in
theorem kw_204 : ab_vm km_204 1221 106 = true := by decide +kernel
theorem kk_204 : ab_mok ab_pg 204 km_204 := ab_vm_ok (t := kt_204) rfl kw_204 kv_204 trivial
set_option maxRecDepth 100000 in
theorem kv_205 : ab_vt km_205 kt_205 = true := by decide +kernel
set_option maxRecDepth 100000 in
theorem kw_205 : ab_vm km_205 1225 115 = true := by decide +kernel
theorem kk_205 : ab_mok ab_pg 205 km_205 := ab_vm_ok (t := kt_205) rfl kw_205 kv_205 trivial
set_option maxRecDepth 100000 in
theorem kv_206 : ab_vt km_206 kt_206 = true := by decide +kernel
set_option maxRecDepth 100000 in
theorem kw_206 : ab_vm km_206 2006 116 = true := by decide +kernel
theorem kk_206 : ab_mok ab_pg 206 km_206 := ab_vm_ok (t := kt_206) rfl kw_206 kv_206 trivial
set_option maxRecDepth 100000 in
theorem kv_207 : ab_vt km_207 kt_207 = true := by decide +kernel
set_option maxRecDepth 100000 in
theorem kw_207 : ab_vm km_207 2027 116 = true := by decide +kernel
theorem kk_207 : ab_mok ab_pg 207 km_207 := ab_vm_ok (t := kt_207) rfl kw_207 kv_207 trivial
set_option maxRecDepth 100000 in
theorem kv_208 : ab_vt km_208 kt_208 = true := by decide +kernel
set_option maxRecDepth 100000 in
theorem kw_208 : ab_vm km_208 2039 116 = true := by decide +kernel
theorem kk_208 : ab_mok ab_pg 208 km_208 := ab_vm_ok (t := kt_208) rfl kw_208 kv_208 trivial
set_option maxRecDepth 100000 in
theorem kv_209 : ab_vt km_209 kt_209 = true := by decide +kernel
set_option maxRecDepth 100000 in
theorem kw_209 : ab_vm km_209 1998 116 = true := by decide +kernel
theorem kk_209 : ab_mok ab_pg 209 km_209 := ab_vm_ok (t := kt_209) rfl kw_209 kv_209 trivial
set_option maxRecDepth 100000 in
theorem kv_210 : ab_vt km_210 kt_210 = true := by decide +kernel
set_option maxRecDepth 100000 in
theorem kw_210 : ab_vm km_210 1236 106 = true := by decide +kernel
theorem kk_210 : ab_mok ab_pg 210 km_210 := ab_vm_ok (t := kt_210) rfl kw_210 kv_210 trivial
set_option maxRecDepth 100000 in
theorem kv_211 : ab_vt km_211 kt_211 = true := by decide +kernel
set_option maxRecDepth 100000 in
theorem kw_211 : ab_vm km_211 1269 106 = true := by decide +kernel
theorem kk_211 : ab_mok ab_pg 211 km_211 := ab_vm_ok (t := kt_211) rfl kw_211 kv_211 trivial
set_option maxRecDepth 100000 in
theorem kv_212 : ab_vt km_212 kt_212 = true := by decide +kernel
set_option maxRecDepth 100000 in
theorem kw_212 : ab_vm km_212 2059 116 = true := by decide +kernel
theorem kk_212 : ab_mok ab_pg 212 km_212 := ab_vm_ok (t := kt_212) rfl kw_212 kv_212 trivial
set_option maxRecDepth 100000 in
theorem kv_213 : ab_vt km_213 kt_213 = true := by decide +kernel
set_option maxRecDepth 100000 in
theorem kw_213 : ab_vm km_213 2071 116 = true := by decide +kernel
theorem kk_213 : ab_mok ab_pg 213 km_213 := ab_vm_ok (t := kt_213) rfl kw_213 kv_213 trivial
set_option maxRecDepth 100000 in
theorem kv_214 : ab_vt km_214 kt_214 = true := by decide +kernel
set_option maxRecDepth 100000 in
theorem kw_214 : ab_vm km_214 1280 112 = true := by decide +kernel
theorem kk_214 : ab_mok ab_pg 214 km_214 := ab_vm_ok (t := kt_214) rfl kw_214 kv_214 trivial
set_option maxRecDepth 100000 in
theorem kv_215 : ab_vt km_215 kt_215 = true := by decide +kernel
set_option maxRecDepth 100000 in
theorem kw_215 : ab_vm km_215 1311 115 = true := by decide +kernel
theorem kk_215 : ab_mok ab_pg 215 km_215 := ab_vm_ok (t := kt_215) rfl kw_215 kv_215 trivial
set_option maxRecDepth 100000 in
theorem kv_216 : ab_vt km_216 kt_216 = true := by decide +kernel
set_option maxRecDepth 100000 in
theorem kw_216 : ab_vm km_216 1315 112 = true := by decide +kernel
theorem kk_216 : ab_mok ab_pg 216 km_216 := ab_vm_ok (t := kt_216) rfl kw_216 kv_216 trivial
set_option maxRecDepth 100000 in
theorem kv_217 : ab_vt km_217 kt_217 = true := by decide +kernel
set_option maxRecDepth 100000 in
theorem kw_217 : ab_vm km_217 2116 116 = true := by decide +kernel
theorem kk_217 : ab_mok ab_pg 217 km_217 := ab_vm_ok (t := kt_217) rfl kw_217 kv_217 trivial
set_option maxRecDepth 100000 in
theorem kv_218 : ab_vt km_218 kt_218 = true := by decide +kernel
set_option maxRecDepth 100000 in
theorem kw_218 : ab_vm km_218 2131 116 = true := by decide +kernel
theorem kk_218 : ab_mok ab_pg 218 km_218 := ab_vm_ok (t := kt_218) rfl kw_218 kv_218 trivial
set_option maxRecDepth 100000 in
theorem kv_219 : ab_vt km_219 kt_219 = true := by decide +kernel
set_option maxRecDepth 100000 in
theorem kw_219 : ab_vm km_219 2147 116 = true := by decide +kernel
theorem kk_219 : ab_mok ab_pg 219 km_219 := ab_vm_ok (t := kt_219) rfl kw_219 kv_219 trivial
set_option maxRecDepth 100000 in
theorem kv_220 : ab_vt km_220 kt_220 = true := by decide +kernel
set_option maxRecDepth 100000 in
theorem kw_220 : ab_vm km_220 2153 116 = true := by decide +kernel
theorem kk_220 : ab_mok ab_pg 220 km_220 := ab_vm_ok (t := kt_220) rfl kw_220 kv_220 trivial
set_option maxRecDepth 100000 in
theorem kv_221 : ab_vt km_221 kt_221 = true := by decide +kernel
set_option maxRecDepth 100000 in
theorem kw_221 : ab_vm km_221 2156 116 = true := by decide +kernel
theorem kk_221 : ab_mok ab_pg 221 km_221 := ab_vm_ok (t := kt_221) rfl kw_221 kv_221 trivial
set_option maxRecDepth 100000 in
theorem kv_222 : ab_vt km_222 kt_222 = true := by decide +kernel
set_option maxRecDepth 100000 in
theorem kw_222 : ab_vm km_222 2160 116 = true := by decide +kernel
theorem kk_222 : ab_mok ab_pg 222 km_222 := ab_vm_ok (t := kt_222) rfl kw_222 kv_222 trivial
set_option maxRecDepth 100000 in
theorem kv_223 : ab_vt km_223 kt_223 = true := by decide +kernel
set_option maxRecDepth 100000 in
theorem kw_223 : ab_vm km_223 2150 116 = true := by decide +kernel
theorem kk_223 : ab_mok ab_pg 223 km_223 := ab_vm_ok (t := kt_223) rfl kw_223 kv_223 trivial
set_option maxRecDepth 100000 in
theorem kv_224 : ab_vt km_224 kt_224 = true := by decide +kernel
set_option maxRecDepth 100000 in
theorem kw_224 : ab_vm km_224 1379 108 = true := by decide +kernel
theorem kk_224 : ab_mok ab_pg 224 km_224 := ab_vm_ok (t := kt_224) rfl kw_224 kv_224 trivial
set_option maxRecDepth 100000 in
theorem kv_225 : ab_vt km_225 kt_225 = true := by decide +kernel
set_option maxRecDepth 100000 in
theorem kw_225 : ab_vm km_225 1393 108 = true := by decide +kernel
theorem kk_225 : ab_mok ab_pg 225 km_225 := ab_vm_ok (t := kt_225) rfl kw_225 kv_225 trivial
set_option maxRecDepth 100000 in
theorem kv_226 : ab_vt km_226 kt_226 = true := by decide +kernel
set_option maxRecDepth 100000 in
theorem kw_226 : ab_vm km_226 2034 116 = true := by decide +kernel
theorem kk_226 : ab_mok ab_pg 226 km_226 := ab_vm_ok (t := kt_226) rfl kw_226 kv_226 trivial
set_option maxRecDepth 100000 in
theorem kv_227 : ab_vt km_227 kt_227 = true := by decide +kernel
set_option maxRecDepth 100000 in
theorem kw_227 : ab_vm km_227 566 115 = true := by decide +kernel
theorem kk_227 : ab_mok ab_pg 227 km_227 := ab_vm_ok (t := kt_227) rfl kw_227 kv_227 trivial
set_option maxRecDepth 100000 in
theorem kv_228 : ab_vt km_228 kt_228 = true := by decide +kernel
set_option maxRecDepth 100000 in
theorem kw_228 : ab_vm km_228 1095 103 = true := by decide +kernel
theorem kk_228 : ab_mok ab_pg 228 km_228 := ab_vm_ok (t := kt_228) rfl kw_228 kv_228 trivial
set_option maxRecDepth 100000 in
theorem kv_229 : ab_vt km_229 kt_229 = true := by decide +kernel
set_option maxRecDepth 100000 in
theorem kw_229 : ab_vm km_229 1405 109 = true := by decide +kernel
theorem kk_229 : ab_mok ab_pg 229 km_229 := ab_vm_ok (t := kt_229) rfl kw_229 kv_229 trivial
