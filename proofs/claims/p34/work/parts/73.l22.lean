/-! the law's loop, printed by wip/p34/genall.py -/
theorem zt_l2125 : zchk zRUL 3 xBY zIN zCF [] zgl_l2125 20000 [(12, 3, 92), (12, 3, 93), (5, 0, 0), (5, 1, 0)] zc_l2125 = true := by decide +kernel
theorem zt_l2126 : zchk zRUL 3 xBY zIN zCF [] zgl_l2125 20000 [(12, 2, 91), (21, 2, 90)] zc_l2126 = true := by decide +kernel
theorem zt_l2127 : zchk zRUL 3 xBY zIN zCF [] zgl_l2125 20000 [(12, 2, 91), (21, 2, 90)] zc_l2127 = true := by decide +kernel
theorem zt_l2128 : zchk zRUL 3 xBY zIN zCF [] zgl_l2125 20000 [(12, 2, 91), (21, 2, 90)] zc_l2128 = true := by decide +kernel
theorem zt_l2129 : zchk zRUL 3 xBY zIN zCF [] zgl_l2125 20000 [(12, 2, 91), (21, 2, 90)] zc_l2129 = true := by decide +kernel
theorem zt_l2130 : zchk zRUL 3 xBY zIN zCF [] zgl_l2125 20000 [(12, 2, 91), (21, 2, 90)] zc_l2130 = true := by decide +kernel
theorem zt_l2131 : zchk zRUL 3 xBY zIN zCF [] zgl_l2125 20000 [(12, 2, 91), (21, 2, 90)] zc_l2131 = true := by decide +kernel
theorem zt_l2132 : zchk zRUL 3 xBY zIN zCF [] zgl_l2125 20000 [(12, 2, 91), (21, 2, 90)] zc_l2132 = true := by decide +kernel
theorem zt_l2133 : zchk zRUL 3 xBY zIN zCF [] zgl_l2125 20000 [(12, 2, 91), (21, 2, 90)] zc_l2133 = true := by decide +kernel
theorem zt_l2134 : zchk zRUL 3 xBY zIN zCF [] zgl_l2125 20000 [(12, 2, 91), (21, 2, 90)] zc_l2134 = true := by decide +kernel
theorem zt_l2135 : zchk zRUL 3 xBY zIN zCF [] zgl_l2125 20000 [(12, 2, 91), (21, 2, 90)] zc_l2135 = true := by decide +kernel
theorem zt_l2136 : zchk zRUL 3 xBY zIN zCF [] zgl_l2125 20000 [(12, 2, 91), (21, 2, 90)] zc_l2136 = true := by decide +kernel
theorem zt_l2137 : zchk zRUL 3 xBY zIN zCF [] zgl_l2125 20000 [(12, 2, 91), (21, 2, 90)] zc_l2137 = true := by decide +kernel
theorem zt_l2138 : zchk zRUL 3 xBY zIN zCF [] zgl_l2125 20000 [(12, 2, 91), (21, 2, 90)] zc_l2138 = true := by decide +kernel
theorem zt_l2139 : zchk zRUL 3 xBY zIN zCF [] zgl_l2125 20000 [(12, 2, 91), (21, 2, 90)] zc_l2139 = true := by decide +kernel
theorem zt_l2140 : zchk zRUL 3 xBY zIN zCF [] zgl_l2125 20000 [(12, 2, 91), (21, 2, 90)] zc_l2140 = true := by decide +kernel
theorem zga_l2125_0 : ∀ p ∈ zgh_l2125_0, zchk zRUL 3 xBY zIN zCF [] zgl_l2125 20000 p.2 p.1 = true := List.forall_mem_cons.mpr ⟨zt_l2125, List.forall_mem_cons.mpr ⟨zt_l2126, List.forall_mem_cons.mpr ⟨zt_l2127, List.forall_mem_cons.mpr ⟨zt_l2128, List.forall_mem_cons.mpr ⟨zt_l2129, List.forall_mem_cons.mpr ⟨zt_l2130, List.forall_mem_cons.mpr ⟨zt_l2131, List.forall_mem_cons.mpr ⟨zt_l2132, List.forall_mem_cons.mpr ⟨zt_l2133, List.forall_mem_cons.mpr ⟨zt_l2134, List.forall_mem_cons.mpr ⟨zt_l2135, List.forall_mem_cons.mpr ⟨zt_l2136, List.forall_mem_cons.mpr ⟨zt_l2137, List.forall_mem_cons.mpr ⟨zt_l2138, List.forall_mem_cons.mpr ⟨zt_l2139, List.forall_mem_cons.mpr ⟨zt_l2140, fun _ h => absurd h List.not_mem_nil⟩⟩⟩⟩⟩⟩⟩⟩⟩⟩⟩⟩⟩⟩⟩⟩
theorem zt_l2141 : zchk zRUL 3 xBY zIN zCF [] zgl_l2125 20000 [(12, 2, 91), (21, 2, 90)] zc_l2141 = true := by decide +kernel
theorem zt_l2142 : zchk zRUL 3 xBY zIN zCF [] zgl_l2125 20000 [(12, 2, 91), (21, 2, 90)] zc_l2142 = true := by decide +kernel
theorem zt_l2143 : zchk zRUL 3 xBY zIN zCF [] zgl_l2125 20000 [(12, 2, 91), (21, 2, 90)] zc_l2143 = true := by decide +kernel
theorem zt_l2144 : zchk zRUL 3 xBY zIN zCF [] zgl_l2125 20000 [(12, 2, 91), (21, 2, 90)] zc_l2144 = true := by decide +kernel
theorem zt_l2145 : zchk zRUL 3 xBY zIN zCF [] zgl_l2125 20000 [(12, 2, 91), (21, 2, 90)] zc_l2145 = true := by decide +kernel
theorem zt_l2146 : zchk zRUL 3 xBY zIN zCF [] zgl_l2125 20000 [(12, 2, 91), (21, 2, 90)] zc_l2146 = true := by decide +kernel
theorem zt_l2147 : zchk zRUL 3 xBY zIN zCF [] zgl_l2125 20000 [(12, 2, 91), (21, 2, 90)] zc_l2147 = true := by decide +kernel
theorem zt_l2148 : zchk zRUL 3 xBY zIN zCF [] zgl_l2125 20000 [(12, 2, 91), (21, 2, 90)] zc_l2148 = true := by decide +kernel
theorem zt_l2149 : zchk zRUL 3 xBY zIN zCF [] zgl_l2125 20000 [(12, 2, 91), (21, 2, 90)] zc_l2149 = true := by decide +kernel
theorem zt_l2150 : zchk zRUL 3 xBY zIN zCF [] zgl_l2125 20000 [(12, 2, 91), (21, 2, 90)] zc_l2150 = true := by decide +kernel
theorem zt_l2151 : zchk zRUL 3 xBY zIN zCF [] zgl_l2125 20000 [(12, 2, 91), (21, 2, 90)] zc_l2151 = true := by decide +kernel
theorem zt_l2152 : zchk zRUL 3 xBY zIN zCF [] zgl_l2125 20000 [(12, 2, 91), (21, 2, 90)] zc_l2152 = true := by decide +kernel
theorem zt_l2153 : zchk zRUL 3 xBY zIN zCF [] zgl_l2125 20000 [(12, 2, 91), (21, 2, 90)] zc_l2153 = true := by decide +kernel
theorem zt_l2154 : zchk zRUL 3 xBY zIN zCF [] zgl_l2125 20000 [(12, 2, 91), (21, 2, 90)] zc_l2154 = true := by decide +kernel
theorem zt_l2155 : zchk zRUL 3 xBY zIN zCF [] zgl_l2125 20000 [(12, 2, 91), (21, 2, 90)] zc_l2155 = true := by decide +kernel
theorem zt_l2156 : zchk zRUL 3 xBY zIN zCF [] zgl_l2125 20000 [(12, 2, 91), (21, 2, 90)] zc_l2156 = true := by decide +kernel
theorem zga_l2125_1 : ∀ p ∈ zgh_l2125_1, zchk zRUL 3 xBY zIN zCF [] zgl_l2125 20000 p.2 p.1 = true := List.forall_mem_cons.mpr ⟨zt_l2141, List.forall_mem_cons.mpr ⟨zt_l2142, List.forall_mem_cons.mpr ⟨zt_l2143, List.forall_mem_cons.mpr ⟨zt_l2144, List.forall_mem_cons.mpr ⟨zt_l2145, List.forall_mem_cons.mpr ⟨zt_l2146, List.forall_mem_cons.mpr ⟨zt_l2147, List.forall_mem_cons.mpr ⟨zt_l2148, List.forall_mem_cons.mpr ⟨zt_l2149, List.forall_mem_cons.mpr ⟨zt_l2150, List.forall_mem_cons.mpr ⟨zt_l2151, List.forall_mem_cons.mpr ⟨zt_l2152, List.forall_mem_cons.mpr ⟨zt_l2153, List.forall_mem_cons.mpr ⟨zt_l2154, List.forall_mem_cons.mpr ⟨zt_l2155, List.forall_mem_cons.mpr ⟨zt_l2156, fun _ h => absurd h List.not_mem_nil⟩⟩⟩⟩⟩⟩⟩⟩⟩⟩⟩⟩⟩⟩⟩⟩
theorem zt_l2157 : zchk zRUL 3 xBY zIN zCF [] zgl_l2125 20000 [(12, 2, 91), (21, 2, 90)] zc_l2157 = true := by decide +kernel
theorem zt_l2158 : zchk zRUL 3 xBY zIN zCF [] zgl_l2125 20000 [(12, 2, 91), (21, 2, 90)] zc_l2158 = true := by decide +kernel
theorem zt_l2159 : zchk zRUL 3 xBY zIN zCF [] zgl_l2125 20000 [(12, 2, 91), (21, 2, 90)] zc_l2159 = true := by decide +kernel
theorem zt_l2160 : zchk zRUL 3 xBY zIN zCF [] zgl_l2125 20000 [(12, 2, 91), (21, 2, 90)] zc_l2160 = true := by decide +kernel
theorem zt_l2161 : zchk zRUL 3 xBY zIN zCF [] zgl_l2125 20000 [(12, 2, 91), (21, 2, 90)] zc_l2161 = true := by decide +kernel
theorem zt_l2162 : zchk zRUL 3 xBY zIN zCF [] zgl_l2125 20000 [(12, 2, 91), (21, 2, 90)] zc_l2162 = true := by decide +kernel
theorem zt_l2163 : zchk zRUL 3 xBY zIN zCF [] zgl_l2125 20000 [(12, 2, 91), (21, 2, 90)] zc_l2163 = true := by decide +kernel
theorem zt_l2164 : zchk zRUL 3 xBY zIN zCF [] zgl_l2125 20000 [(12, 2, 91), (21, 2, 90)] zc_l2164 = true := by decide +kernel
theorem zt_l2165 : zchk zRUL 3 xBY zIN zCF [] zgl_l2125 20000 [(12, 2, 91), (21, 2, 90)] zc_l2165 = true := by decide +kernel
theorem zt_l2166 : zchk zRUL 3 xBY zIN zCF [] zgl_l2125 20000 [(12, 2, 91), (21, 2, 90)] zc_l2166 = true := by decide +kernel
theorem zt_l2167 : zchk zRUL 3 xBY zIN zCF [] zgl_l2125 20000 [(12, 2, 91), (21, 2, 90)] zc_l2167 = true := by decide +kernel
theorem zt_l2168 : zchk zRUL 3 xBY zIN zCF [] zgl_l2125 20000 [(12, 2, 91), (21, 2, 90)] zc_l2168 = true := by decide +kernel
theorem zt_l2169 : zchk zRUL 3 xBY zIN zCF [] zgl_l2125 20000 [(12, 2, 91), (21, 2, 90)] zc_l2169 = true := by decide +kernel
theorem zt_l2170 : zchk zRUL 3 xBY zIN zCF [] zgl_l2125 20000 [(12, 2, 91), (21, 2, 90)] zc_l2170 = true := by decide +kernel
theorem zt_l2171 : zchk zRUL 3 xBY zIN zCF [] zgl_l2125 20000 [(12, 2, 91), (21, 2, 90)] zc_l2171 = true := by decide +kernel
theorem zt_l2172 : zchk zRUL 3 xBY zIN zCF [] zgl_l2125 20000 [(12, 2, 91), (21, 2, 90)] zc_l2172 = true := by decide +kernel
theorem zga_l2125_2 : ∀ p ∈ zgh_l2125_2, zchk zRUL 3 xBY zIN zCF [] zgl_l2125 20000 p.2 p.1 = true := List.forall_mem_cons.mpr ⟨zt_l2157, List.forall_mem_cons.mpr ⟨zt_l2158, List.forall_mem_cons.mpr ⟨zt_l2159, List.forall_mem_cons.mpr ⟨zt_l2160, List.forall_mem_cons.mpr ⟨zt_l2161, List.forall_mem_cons.mpr ⟨zt_l2162, List.forall_mem_cons.mpr ⟨zt_l2163, List.forall_mem_cons.mpr ⟨zt_l2164, List.forall_mem_cons.mpr ⟨zt_l2165, List.forall_mem_cons.mpr ⟨zt_l2166, List.forall_mem_cons.mpr ⟨zt_l2167, List.forall_mem_cons.mpr ⟨zt_l2168, List.forall_mem_cons.mpr ⟨zt_l2169, List.forall_mem_cons.mpr ⟨zt_l2170, List.forall_mem_cons.mpr ⟨zt_l2171, List.forall_mem_cons.mpr ⟨zt_l2172, fun _ h => absurd h List.not_mem_nil⟩⟩⟩⟩⟩⟩⟩⟩⟩⟩⟩⟩⟩⟩⟩⟩
theorem zt_l2173 : zchk zRUL 3 xBY zIN zCF [] zgl_l2125 20000 [(12, 2, 91), (21, 2, 90)] zc_l2173 = true := by decide +kernel
theorem zt_l2174 : zchk zRUL 3 xBY zIN zCF [] zgl_l2125 20000 [(12, 2, 91), (21, 2, 90)] zc_l2174 = true := by decide +kernel
theorem zt_l2175 : zchk zRUL 3 xBY zIN zCF [] zgl_l2125 20000 [(12, 2, 91), (21, 2, 90)] zc_l2175 = true := by decide +kernel
theorem zt_l2176 : zchk zRUL 3 xBY zIN zCF [] zgl_l2125 20000 [(12, 2, 91), (21, 2, 90)] zc_l2176 = true := by decide +kernel
theorem zt_l2177 : zchk zRUL 3 xBY zIN zCF [] zgl_l2125 20000 [(12, 2, 91), (21, 2, 90)] zc_l2177 = true := by decide +kernel
theorem zt_l2178 : zchk zRUL 3 xBY zIN zCF [] zgl_l2125 20000 [(12, 2, 91), (21, 2, 90)] zc_l2178 = true := by decide +kernel
theorem zt_l2179 : zchk zRUL 3 xBY zIN zCF [] zgl_l2125 20000 [(12, 2, 91), (21, 2, 90)] zc_l2179 = true := by decide +kernel
theorem zt_l2180 : zchk zRUL 3 xBY zIN zCF [] zgl_l2125 20000 [(12, 2, 91), (21, 2, 90)] zc_l2180 = true := by decide +kernel
theorem zt_l2181 : zchk zRUL 3 xBY zIN zCF [] zgl_l2125 20000 [(12, 2, 91), (21, 2, 90)] zc_l2181 = true := by decide +kernel
theorem zt_l2182 : zchk zRUL 3 xBY zIN zCF [] zgl_l2125 20000 [(12, 2, 91), (21, 2, 90)] zc_l2182 = true := by decide +kernel
theorem zt_l2183 : zchk zRUL 3 xBY zIN zCF [] zgl_l2125 20000 [(12, 2, 91), (21, 2, 90)] zc_l2183 = true := by decide +kernel
theorem zt_l2184 : zchk zRUL 3 xBY zIN zCF [] zgl_l2125 20000 [(12, 2, 91), (21, 2, 90)] zc_l2184 = true := by decide +kernel
theorem zt_l2185 : zchk zRUL 3 xBY zIN zCF [] zgl_l2125 20000 [(12, 2, 91), (21, 2, 90)] zc_l2185 = true := by decide +kernel
theorem zt_l2186 : zchk zRUL 3 xBY zIN zCF [] zgl_l2125 20000 [(12, 2, 91), (21, 2, 90)] zc_l2186 = true := by decide +kernel
theorem zt_l2187 : zchk zRUL 3 xBY zIN zCF [] zgl_l2125 20000 [(12, 2, 91), (21, 2, 90)] zc_l2187 = true := by decide +kernel
theorem zt_l2188 : zchk zRUL 3 xBY zIN zCF [] zgl_l2125 20000 [(12, 2, 91), (21, 2, 90)] zc_l2188 = true := by decide +kernel
theorem zga_l2125_3 : ∀ p ∈ zgh_l2125_3, zchk zRUL 3 xBY zIN zCF [] zgl_l2125 20000 p.2 p.1 = true := List.forall_mem_cons.mpr ⟨zt_l2173, List.forall_mem_cons.mpr ⟨zt_l2174, List.forall_mem_cons.mpr ⟨zt_l2175, List.forall_mem_cons.mpr ⟨zt_l2176, List.forall_mem_cons.mpr ⟨zt_l2177, List.forall_mem_cons.mpr ⟨zt_l2178, List.forall_mem_cons.mpr ⟨zt_l2179, List.forall_mem_cons.mpr ⟨zt_l2180, List.forall_mem_cons.mpr ⟨zt_l2181, List.forall_mem_cons.mpr ⟨zt_l2182, List.forall_mem_cons.mpr ⟨zt_l2183, List.forall_mem_cons.mpr ⟨zt_l2184, List.forall_mem_cons.mpr ⟨zt_l2185, List.forall_mem_cons.mpr ⟨zt_l2186, List.forall_mem_cons.mpr ⟨zt_l2187, List.forall_mem_cons.mpr ⟨zt_l2188, fun _ h => absurd h List.not_mem_nil⟩⟩⟩⟩⟩⟩⟩⟩⟩⟩⟩⟩⟩⟩⟩⟩
theorem zt_l2189 : zchk zRUL 3 xBY zIN zCF [] zgl_l2125 20000 [(12, 2, 91), (21, 2, 90)] zc_l2189 = true := by decide +kernel
theorem zt_l2190 : zchk zRUL 3 xBY zIN zCF [] zgl_l2125 20000 [(12, 2, 91), (21, 2, 90)] zc_l2190 = true := by decide +kernel
theorem zt_l2191 : zchk zRUL 3 xBY zIN zCF [] zgl_l2125 20000 [(12, 2, 91), (21, 2, 90)] zc_l2191 = true := by decide +kernel
theorem zt_l2192 : zchk zRUL 3 xBY zIN zCF [] zgl_l2125 20000 [(12, 2, 91), (21, 2, 90)] zc_l2192 = true := by decide +kernel
theorem zt_l2193 : zchk zRUL 3 xBY zIN zCF [] zgl_l2125 20000 [(12, 2, 91), (21, 2, 90)] zc_l2193 = true := by decide +kernel
theorem zt_l2194 : zchk zRUL 3 xBY zIN zCF [] zgl_l2125 20000 [(12, 2, 91), (21, 2, 90)] zc_l2194 = true := by decide +kernel
theorem zt_l2195 : zchk zRUL 3 xBY zIN zCF [] zgl_l2125 20000 [(12, 2, 91), (21, 2, 90)] zc_l2195 = true := by decide +kernel
theorem zt_l2196 : zchk zRUL 3 xBY zIN zCF [] zgl_l2125 20000 [(12, 2, 91), (21, 2, 90)] zc_l2196 = true := by decide +kernel
theorem zt_l2197 : zchk zRUL 3 xBY zIN zCF [] zgl_l2125 20000 [(12, 2, 91), (21, 2, 90)] zc_l2197 = true := by decide +kernel
theorem zt_l2198 : zchk zRUL 3 xBY zIN zCF [] zgl_l2125 20000 [(12, 2, 91), (21, 2, 90)] zc_l2198 = true := by decide +kernel
theorem zt_l2199 : zchk zRUL 3 xBY zIN zCF [] zgl_l2125 20000 [(12, 2, 91), (21, 2, 90)] zc_l2199 = true := by decide +kernel
theorem zt_l2200 : zchk zRUL 3 xBY zIN zCF [] zgl_l2125 20000 [(12, 2, 91), (21, 2, 90)] zc_l2200 = true := by decide +kernel
theorem zt_l2201 : zchk zRUL 3 xBY zIN zCF [] zgl_l2125 20000 [(12, 2, 91), (21, 2, 90)] zc_l2201 = true := by decide +kernel
theorem zt_l2202 : zchk zRUL 3 xBY zIN zCF [] zgl_l2125 20000 [(12, 2, 91), (21, 2, 90)] zc_l2202 = true := by decide +kernel
theorem zt_l2203 : zchk zRUL 3 xBY zIN zCF [] zgl_l2125 20000 [(12, 2, 91), (21, 2, 90)] zc_l2203 = true := by decide +kernel
theorem zt_l2204 : zchk zRUL 3 xBY zIN zCF [] zgl_l2125 20000 [(12, 2, 91), (21, 2, 90)] zc_l2204 = true := by decide +kernel
theorem zga_l2125_4 : ∀ p ∈ zgh_l2125_4, zchk zRUL 3 xBY zIN zCF [] zgl_l2125 20000 p.2 p.1 = true := List.forall_mem_cons.mpr ⟨zt_l2189, List.forall_mem_cons.mpr ⟨zt_l2190, List.forall_mem_cons.mpr ⟨zt_l2191, List.forall_mem_cons.mpr ⟨zt_l2192, List.forall_mem_cons.mpr ⟨zt_l2193, List.forall_mem_cons.mpr ⟨zt_l2194, List.forall_mem_cons.mpr ⟨zt_l2195, List.forall_mem_cons.mpr ⟨zt_l2196, List.forall_mem_cons.mpr ⟨zt_l2197, List.forall_mem_cons.mpr ⟨zt_l2198, List.forall_mem_cons.mpr ⟨zt_l2199, List.forall_mem_cons.mpr ⟨zt_l2200, List.forall_mem_cons.mpr ⟨zt_l2201, List.forall_mem_cons.mpr ⟨zt_l2202, List.forall_mem_cons.mpr ⟨zt_l2203, List.forall_mem_cons.mpr ⟨zt_l2204, fun _ h => absurd h List.not_mem_nil⟩⟩⟩⟩⟩⟩⟩⟩⟩⟩⟩⟩⟩⟩⟩⟩
theorem zt_l2205 : zchk zRUL 3 xBY zIN zCF [] zgl_l2125 20000 [(12, 2, 91), (21, 2, 90)] zc_l2205 = true := by decide +kernel
theorem zt_l2206 : zchk zRUL 3 xBY zIN zCF [] zgl_l2125 20000 [(12, 2, 91), (21, 2, 90)] zc_l2206 = true := by decide +kernel
theorem zt_l2207 : zchk zRUL 3 xBY zIN zCF [] zgl_l2125 20000 [(12, 2, 91), (21, 2, 90)] zc_l2207 = true := by decide +kernel
theorem zt_l2208 : zchk zRUL 3 xBY zIN zCF [] zgl_l2125 20000 [(12, 2, 91), (21, 2, 90)] zc_l2208 = true := by decide +kernel
theorem zt_l2209 : zchk zRUL 3 xBY zIN zCF [] zgl_l2125 20000 [(12, 2, 91), (21, 2, 90)] zc_l2209 = true := by decide +kernel
theorem zt_l2210 : zchk zRUL 3 xBY zIN zCF [] zgl_l2125 20000 [(12, 2, 91), (21, 2, 90)] zc_l2210 = true := by decide +kernel
theorem zt_l2211 : zchk zRUL 3 xBY zIN zCF [] zgl_l2125 20000 [(12, 2, 91), (21, 2, 90)] zc_l2211 = true := by decide +kernel
theorem zt_l2212 : zchk zRUL 3 xBY zIN zCF [] zgl_l2125 20000 [(12, 2, 91), (21, 2, 90)] zc_l2212 = true := by decide +kernel
theorem zt_l2213 : zchk zRUL 3 xBY zIN zCF [] zgl_l2125 20000 [(12, 2, 91), (21, 2, 90)] zc_l2213 = true := by decide +kernel
theorem zt_l2214 : zchk zRUL 3 xBY zIN zCF [] zgl_l2125 20000 [(12, 2, 91), (21, 2, 90)] zc_l2214 = true := by decide +kernel
theorem zt_l2215 : zchk zRUL 3 xBY zIN zCF [] zgl_l2125 20000 [(12, 2, 91), (21, 2, 90)] zc_l2215 = true := by decide +kernel
theorem zt_l2216 : zchk zRUL 3 xBY zIN zCF [] zgl_l2125 20000 [(12, 2, 91), (21, 2, 90)] zc_l2216 = true := by decide +kernel
theorem zt_l2217 : zchk zRUL 3 xBY zIN zCF [] zgl_l2125 20000 [(12, 2, 91), (21, 2, 90)] zc_l2217 = true := by decide +kernel
theorem zt_l2218 : zchk zRUL 3 xBY zIN zCF [] zgl_l2125 20000 [(12, 2, 91), (21, 2, 90)] zc_l2218 = true := by decide +kernel
theorem zt_l2219 : zchk zRUL 3 xBY zIN zCF [] zgl_l2125 20000 [(12, 2, 91), (21, 2, 90)] zc_l2219 = true := by decide +kernel
theorem zt_l2220 : zchk zRUL 3 xBY zIN zCF [] zgl_l2125 20000 [(12, 2, 91), (21, 2, 90)] zc_l2220 = true := by decide +kernel
theorem zga_l2125_5 : ∀ p ∈ zgh_l2125_5, zchk zRUL 3 xBY zIN zCF [] zgl_l2125 20000 p.2 p.1 = true := List.forall_mem_cons.mpr ⟨zt_l2205, List.forall_mem_cons.mpr ⟨zt_l2206, List.forall_mem_cons.mpr ⟨zt_l2207, List.forall_mem_cons.mpr ⟨zt_l2208, List.forall_mem_cons.mpr ⟨zt_l2209, List.forall_mem_cons.mpr ⟨zt_l2210, List.forall_mem_cons.mpr ⟨zt_l2211, List.forall_mem_cons.mpr ⟨zt_l2212, List.forall_mem_cons.mpr ⟨zt_l2213, List.forall_mem_cons.mpr ⟨zt_l2214, List.forall_mem_cons.mpr ⟨zt_l2215, List.forall_mem_cons.mpr ⟨zt_l2216, List.forall_mem_cons.mpr ⟨zt_l2217, List.forall_mem_cons.mpr ⟨zt_l2218, List.forall_mem_cons.mpr ⟨zt_l2219, List.forall_mem_cons.mpr ⟨zt_l2220, fun _ h => absurd h List.not_mem_nil⟩⟩⟩⟩⟩⟩⟩⟩⟩⟩⟩⟩⟩⟩⟩⟩
theorem zt_l2221 : zchk zRUL 3 xBY zIN zCF [] zgl_l2125 20000 [(12, 2, 91), (21, 2, 90)] zc_l2221 = true := by decide +kernel
theorem zt_l2222 : zchk zRUL 3 xBY zIN zCF [] zgl_l2125 20000 [(12, 2, 91), (21, 2, 90)] zc_l2222 = true := by decide +kernel
theorem zt_l2223 : zchk zRUL 3 xBY zIN zCF [] zgl_l2125 20000 [(12, 2, 91), (21, 2, 90)] zc_l2223 = true := by decide +kernel
theorem zt_l2224 : zchk zRUL 3 xBY zIN zCF [] zgl_l2125 20000 [(12, 2, 91), (21, 2, 90)] zc_l2224 = true := by decide +kernel
theorem zt_l2225 : zchk zRUL 3 xBY zIN zCF [] zgl_l2125 20000 [(12, 2, 91), (21, 2, 90)] zc_l2225 = true := by decide +kernel
theorem zga_l2125_6 : ∀ p ∈ zgh_l2125_6, zchk zRUL 3 xBY zIN zCF [] zgl_l2125 20000 p.2 p.1 = true := List.forall_mem_cons.mpr ⟨zt_l2221, List.forall_mem_cons.mpr ⟨zt_l2222, List.forall_mem_cons.mpr ⟨zt_l2223, List.forall_mem_cons.mpr ⟨zt_l2224, List.forall_mem_cons.mpr ⟨zt_l2225, fun _ h => absurd h List.not_mem_nil⟩⟩⟩⟩⟩
theorem zk_l2125 {g : yG} {J : zJp} (hy : zHy g J) : zCok g zCF J zc_l2125 := zgp2 hy (CT := []) (fun _ h => absurd h List.not_mem_nil) (fuel := 20000) (L := zgh_l2125_0 ++ (zgh_l2125_1 ++ (zgh_l2125_2 ++ (zgh_l2125_3 ++ (zgh_l2125_4 ++ (zgh_l2125_5 ++ (zgh_l2125_6))))))) zge_l2125 (List.forall_mem_append.mpr ⟨zga_l2125_0, List.forall_mem_append.mpr ⟨zga_l2125_1, List.forall_mem_append.mpr ⟨zga_l2125_2, List.forall_mem_append.mpr ⟨zga_l2125_3, List.forall_mem_append.mpr ⟨zga_l2125_4, List.forall_mem_append.mpr ⟨zga_l2125_5, zga_l2125_6⟩⟩⟩⟩⟩⟩) (zc_l2125, [(12, 3, 92), (12, 3, 93), (5, 0, 0), (5, 1, 0)]) (List.mem_append_left _ List.mem_cons_self)
/-- GridLawsModel.later, row 0 -/
def zc_l2226 : zC := (287, 0, 1, [(3, 88, .ofNat 0), (1, 0, .ofNat 0)], ([(88, (0, 0, .ofNat 28), (1, 1, .ofNat 0)), (1049, (1, 0, .ofNat 0), (0, 0, .ofNat 0))], []), [(.ofNat 700, .ofNat 799, 0, .ofNat 0), (.ofNat 0, .ofNat 100000, 0, .ofNat 0)], [], [(some (0, 0, .negSucc 0), ([], []), [(.ofNat 700, .ofNat 799, 0, .ofNat 0), (.ofNat 0, .ofNat 100000, 0, .ofNat 0)])], [(false, (0, 0, .ofNat 1))])
/-- GridLawsModel.later, row 5 -/
def zc_l2227 : zC := (287, 5, 1, [(3, 88, .ofNat 0), (0, 0, .ofNat 700)], ([(88, (0, 0, .ofNat 28), (1, 0, .ofNat 0)), (1049, (0, 0, .ofNat 700), (0, 0, .ofNat 0))], []), [(.ofNat 0, .ofNat 100000, 0, .ofNat 0)], [], [(some (0, 0, .negSucc 0), ([], []), [(.ofNat 0, .ofNat 100000, 0, .ofNat 0)])], [(false, (0, 0, .ofNat 0))])
/-- GridLawsModel.later, row 5 -/
def zc_l2228 : zC := (287, 5, 1, [(3, 88, .ofNat 0), (0, 0, .ofNat 701)], ([(88, (0, 0, .ofNat 28), (1, 0, .ofNat 0)), (1049, (0, 0, .ofNat 701), (0, 0, .ofNat 0))], []), [(.ofNat 0, .ofNat 100000, 0, .ofNat 0)], [], [(some (0, 0, .negSucc 0), ([], []), [(.ofNat 0, .ofNat 100000, 0, .ofNat 0)])], [(false, (0, 0, .ofNat 0))])
/-- GridLawsModel.later, row 5 -/
def zc_l2229 : zC := (287, 5, 1, [(3, 88, .ofNat 0), (0, 0, .ofNat 702)], ([(88, (0, 0, .ofNat 28), (1, 0, .ofNat 0)), (1049, (0, 0, .ofNat 702), (0, 0, .ofNat 0))], []), [(.ofNat 0, .ofNat 100000, 0, .ofNat 0)], [], [(some (0, 0, .negSucc 0), ([], []), [(.ofNat 0, .ofNat 100000, 0, .ofNat 0)])], [(false, (0, 0, .ofNat 0))])
/-- GridLawsModel.later, row 5 -/
def zc_l2230 : zC := (287, 5, 1, [(3, 88, .ofNat 0), (0, 0, .ofNat 703)], ([(88, (0, 0, .ofNat 28), (1, 0, .ofNat 0)), (1049, (0, 0, .ofNat 703), (0, 0, .ofNat 0))], []), [(.ofNat 0, .ofNat 100000, 0, .ofNat 0)], [], [(some (0, 0, .negSucc 0), ([], []), [(.ofNat 0, .ofNat 100000, 0, .ofNat 0)])], [(false, (0, 0, .ofNat 0))])
/-- GridLawsModel.later, row 5 -/
def zc_l2231 : zC := (287, 5, 1, [(3, 88, .ofNat 0), (0, 0, .ofNat 704)], ([(88, (0, 0, .ofNat 28), (1, 0, .ofNat 0)), (1049, (0, 0, .ofNat 704), (0, 0, .ofNat 0))], []), [(.ofNat 0, .ofNat 100000, 0, .ofNat 0)], [], [(some (0, 0, .negSucc 0), ([], []), [(.ofNat 0, .ofNat 100000, 0, .ofNat 0)])], [(false, (0, 0, .ofNat 0))])
/-- GridLawsModel.later, row 5 -/
def zc_l2232 : zC := (287, 5, 1, [(3, 88, .ofNat 0), (0, 0, .ofNat 705)], ([(88, (0, 0, .ofNat 28), (1, 0, .ofNat 0)), (1049, (0, 0, .ofNat 705), (0, 0, .ofNat 0))], []), [(.ofNat 0, .ofNat 100000, 0, .ofNat 0)], [], [(some (0, 0, .negSucc 0), ([], []), [(.ofNat 0, .ofNat 100000, 0, .ofNat 0)])], [(false, (0, 0, .ofNat 0))])
/-- GridLawsModel.later, row 5 -/
def zc_l2233 : zC := (287, 5, 1, [(3, 88, .ofNat 0), (0, 0, .ofNat 706)], ([(88, (0, 0, .ofNat 28), (1, 0, .ofNat 0)), (1049, (0, 0, .ofNat 706), (0, 0, .ofNat 0))], []), [(.ofNat 0, .ofNat 100000, 0, .ofNat 0)], [], [(some (0, 0, .negSucc 0), ([], []), [(.ofNat 0, .ofNat 100000, 0, .ofNat 0)])], [(false, (0, 0, .ofNat 0))])
/-- GridLawsModel.later, row 5 -/
def zc_l2234 : zC := (287, 5, 1, [(3, 88, .ofNat 0), (0, 0, .ofNat 707)], ([(88, (0, 0, .ofNat 28), (1, 0, .ofNat 0)), (1049, (0, 0, .ofNat 707), (0, 0, .ofNat 0))], []), [(.ofNat 0, .ofNat 100000, 0, .ofNat 0)], [], [(some (0, 0, .negSucc 0), ([], []), [(.ofNat 0, .ofNat 100000, 0, .ofNat 0)])], [(false, (0, 0, .ofNat 0))])
/-- GridLawsModel.later, row 5 -/
def zc_l2235 : zC := (287, 5, 1, [(3, 88, .ofNat 0), (0, 0, .ofNat 708)], ([(88, (0, 0, .ofNat 28), (1, 0, .ofNat 0)), (1049, (0, 0, .ofNat 708), (0, 0, .ofNat 0))], []), [(.ofNat 0, .ofNat 100000, 0, .ofNat 0)], [], [(some (0, 0, .negSucc 0), ([], []), [(.ofNat 0, .ofNat 100000, 0, .ofNat 0)])], [(false, (0, 0, .ofNat 0))])
/-- GridLawsModel.later, row 5 -/
def zc_l2236 : zC := (287, 5, 1, [(3, 88, .ofNat 0), (0, 0, .ofNat 709)], ([(88, (0, 0, .ofNat 28), (1, 0, .ofNat 0)), (1049, (0, 0, .ofNat 709), (0, 0, .ofNat 0))], []), [(.ofNat 0, .ofNat 100000, 0, .ofNat 0)], [], [(some (0, 0, .negSucc 0), ([], []), [(.ofNat 0, .ofNat 100000, 0, .ofNat 0)])], [(false, (0, 0, .ofNat 0))])
/-- GridLawsModel.later, row 5 -/
def zc_l2237 : zC := (287, 5, 1, [(3, 88, .ofNat 0), (0, 0, .ofNat 710)], ([(88, (0, 0, .ofNat 28), (1, 0, .ofNat 0)), (1049, (0, 0, .ofNat 710), (0, 0, .ofNat 0))], []), [(.ofNat 0, .ofNat 100000, 0, .ofNat 0)], [], [(some (0, 0, .negSucc 0), ([], []), [(.ofNat 0, .ofNat 100000, 0, .ofNat 0)])], [(false, (0, 0, .ofNat 0))])
/-- GridLawsModel.later, row 5 -/
def zc_l2238 : zC := (287, 5, 1, [(3, 88, .ofNat 0), (0, 0, .ofNat 711)], ([(88, (0, 0, .ofNat 28), (1, 0, .ofNat 0)), (1049, (0, 0, .ofNat 711), (0, 0, .ofNat 0))], []), [(.ofNat 0, .ofNat 100000, 0, .ofNat 0)], [], [(some (0, 0, .negSucc 0), ([], []), [(.ofNat 0, .ofNat 100000, 0, .ofNat 0)])], [(false, (0, 0, .ofNat 0))])
/-- GridLawsModel.later, row 5 -/
def zc_l2239 : zC := (287, 5, 1, [(3, 88, .ofNat 0), (0, 0, .ofNat 712)], ([(88, (0, 0, .ofNat 28), (1, 0, .ofNat 0)), (1049, (0, 0, .ofNat 712), (0, 0, .ofNat 0))], []), [(.ofNat 0, .ofNat 100000, 0, .ofNat 0)], [], [(some (0, 0, .negSucc 0), ([], []), [(.ofNat 0, .ofNat 100000, 0, .ofNat 0)])], [(false, (0, 0, .ofNat 0))])
/-- GridLawsModel.later, row 5 -/
def zc_l2240 : zC := (287, 5, 1, [(3, 88, .ofNat 0), (0, 0, .ofNat 713)], ([(88, (0, 0, .ofNat 28), (1, 0, .ofNat 0)), (1049, (0, 0, .ofNat 713), (0, 0, .ofNat 0))], []), [(.ofNat 0, .ofNat 100000, 0, .ofNat 0)], [], [(some (0, 0, .negSucc 0), ([], []), [(.ofNat 0, .ofNat 100000, 0, .ofNat 0)])], [(false, (0, 0, .ofNat 0))])
/-- GridLawsModel.later, row 5 -/
def zc_l2241 : zC := (287, 5, 1, [(3, 88, .ofNat 0), (0, 0, .ofNat 714)], ([(88, (0, 0, .ofNat 28), (1, 0, .ofNat 0)), (1049, (0, 0, .ofNat 714), (0, 0, .ofNat 0))], []), [(.ofNat 0, .ofNat 100000, 0, .ofNat 0)], [], [(some (0, 0, .negSucc 0), ([], []), [(.ofNat 0, .ofNat 100000, 0, .ofNat 0)])], [(false, (0, 0, .ofNat 0))])
/-- GridLawsModel.later, row 5 -/
def zc_l2242 : zC := (287, 5, 1, [(3, 88, .ofNat 0), (0, 0, .ofNat 715)], ([(88, (0, 0, .ofNat 28), (1, 0, .ofNat 0)), (1049, (0, 0, .ofNat 715), (0, 0, .ofNat 0))], []), [(.ofNat 0, .ofNat 100000, 0, .ofNat 0)], [], [(some (0, 0, .negSucc 0), ([], []), [(.ofNat 0, .ofNat 100000, 0, .ofNat 0)])], [(false, (0, 0, .ofNat 0))])
/-- GridLawsModel.later, row 5 -/
def zc_l2243 : zC := (287, 5, 1, [(3, 88, .ofNat 0), (0, 0, .ofNat 716)], ([(88, (0, 0, .ofNat 28), (1, 0, .ofNat 0)), (1049, (0, 0, .ofNat 716), (0, 0, .ofNat 0))], []), [(.ofNat 0, .ofNat 100000, 0, .ofNat 0)], [], [(some (0, 0, .negSucc 0), ([], []), [(.ofNat 0, .ofNat 100000, 0, .ofNat 0)])], [(false, (0, 0, .ofNat 0))])
/-- GridLawsModel.later, row 5 -/
def zc_l2244 : zC := (287, 5, 1, [(3, 88, .ofNat 0), (0, 0, .ofNat 717)], ([(88, (0, 0, .ofNat 28), (1, 0, .ofNat 0)), (1049, (0, 0, .ofNat 717), (0, 0, .ofNat 0))], []), [(.ofNat 0, .ofNat 100000, 0, .ofNat 0)], [], [(some (0, 0, .negSucc 0), ([], []), [(.ofNat 0, .ofNat 100000, 0, .ofNat 0)])], [(false, (0, 0, .ofNat 0))])
/-- GridLawsModel.later, row 5 -/
def zc_l2245 : zC := (287, 5, 1, [(3, 88, .ofNat 0), (0, 0, .ofNat 718)], ([(88, (0, 0, .ofNat 28), (1, 0, .ofNat 0)), (1049, (0, 0, .ofNat 718), (0, 0, .ofNat 0))], []), [(.ofNat 0, .ofNat 100000, 0, .ofNat 0)], [], [(some (0, 0, .negSucc 0), ([], []), [(.ofNat 0, .ofNat 100000, 0, .ofNat 0)])], [(false, (0, 0, .ofNat 0))])
/-- GridLawsModel.later, row 5 -/
def zc_l2246 : zC := (287, 5, 1, [(3, 88, .ofNat 0), (0, 0, .ofNat 719)], ([(88, (0, 0, .ofNat 28), (1, 0, .ofNat 0)), (1049, (0, 0, .ofNat 719), (0, 0, .ofNat 0))], []), [(.ofNat 0, .ofNat 100000, 0, .ofNat 0)], [], [(some (0, 0, .negSucc 0), ([], []), [(.ofNat 0, .ofNat 100000, 0, .ofNat 0)])], [(false, (0, 0, .ofNat 0))])
/-- GridLawsModel.later, row 5 -/
def zc_l2247 : zC := (287, 5, 1, [(3, 88, .ofNat 0), (0, 0, .ofNat 720)], ([(88, (0, 0, .ofNat 28), (1, 0, .ofNat 0)), (1049, (0, 0, .ofNat 720), (0, 0, .ofNat 0))], []), [(.ofNat 0, .ofNat 100000, 0, .ofNat 0)], [], [(some (0, 0, .negSucc 0), ([], []), [(.ofNat 0, .ofNat 100000, 0, .ofNat 0)])], [(false, (0, 0, .ofNat 0))])
/-- GridLawsModel.later, row 5 -/
def zc_l2248 : zC := (287, 5, 1, [(3, 88, .ofNat 0), (0, 0, .ofNat 721)], ([(88, (0, 0, .ofNat 28), (1, 0, .ofNat 0)), (1049, (0, 0, .ofNat 721), (0, 0, .ofNat 0))], []), [(.ofNat 0, .ofNat 100000, 0, .ofNat 0)], [], [(some (0, 0, .negSucc 0), ([], []), [(.ofNat 0, .ofNat 100000, 0, .ofNat 0)])], [(false, (0, 0, .ofNat 0))])
/-- GridLawsModel.later, row 5 -/
def zc_l2249 : zC := (287, 5, 1, [(3, 88, .ofNat 0), (0, 0, .ofNat 722)], ([(88, (0, 0, .ofNat 28), (1, 0, .ofNat 0)), (1049, (0, 0, .ofNat 722), (0, 0, .ofNat 0))], []), [(.ofNat 0, .ofNat 100000, 0, .ofNat 0)], [], [(some (0, 0, .negSucc 0), ([], []), [(.ofNat 0, .ofNat 100000, 0, .ofNat 0)])], [(false, (0, 0, .ofNat 0))])
/-- GridLawsModel.later, row 5 -/
def zc_l2250 : zC := (287, 5, 1, [(3, 88, .ofNat 0), (0, 0, .ofNat 723)], ([(88, (0, 0, .ofNat 28), (1, 0, .ofNat 0)), (1049, (0, 0, .ofNat 723), (0, 0, .ofNat 0))], []), [(.ofNat 0, .ofNat 100000, 0, .ofNat 0)], [], [(some (0, 0, .negSucc 0), ([], []), [(.ofNat 0, .ofNat 100000, 0, .ofNat 0)])], [(false, (0, 0, .ofNat 0))])
/-- GridLawsModel.later, row 5 -/
def zc_l2251 : zC := (287, 5, 1, [(3, 88, .ofNat 0), (0, 0, .ofNat 724)], ([(88, (0, 0, .ofNat 28), (1, 0, .ofNat 0)), (1049, (0, 0, .ofNat 724), (0, 0, .ofNat 0))], []), [(.ofNat 0, .ofNat 100000, 0, .ofNat 0)], [], [(some (0, 0, .negSucc 0), ([], []), [(.ofNat 0, .ofNat 100000, 0, .ofNat 0)])], [(false, (0, 0, .ofNat 0))])
/-- GridLawsModel.later, row 5 -/
def zc_l2252 : zC := (287, 5, 1, [(3, 88, .ofNat 0), (0, 0, .ofNat 725)], ([(88, (0, 0, .ofNat 28), (1, 0, .ofNat 0)), (1049, (0, 0, .ofNat 725), (0, 0, .ofNat 0))], []), [(.ofNat 0, .ofNat 100000, 0, .ofNat 0)], [], [(some (0, 0, .negSucc 0), ([], []), [(.ofNat 0, .ofNat 100000, 0, .ofNat 0)])], [(false, (0, 0, .ofNat 0))])
/-- GridLawsModel.later, row 5 -/
def zc_l2253 : zC := (287, 5, 1, [(3, 88, .ofNat 0), (0, 0, .ofNat 726)], ([(88, (0, 0, .ofNat 28), (1, 0, .ofNat 0)), (1049, (0, 0, .ofNat 726), (0, 0, .ofNat 0))], []), [(.ofNat 0, .ofNat 100000, 0, .ofNat 0)], [], [(some (0, 0, .negSucc 0), ([], []), [(.ofNat 0, .ofNat 100000, 0, .ofNat 0)])], [(false, (0, 0, .ofNat 0))])
/-- GridLawsModel.later, row 5 -/
def zc_l2254 : zC := (287, 5, 1, [(3, 88, .ofNat 0), (0, 0, .ofNat 727)], ([(88, (0, 0, .ofNat 28), (1, 0, .ofNat 0)), (1049, (0, 0, .ofNat 727), (0, 0, .ofNat 0))], []), [(.ofNat 0, .ofNat 100000, 0, .ofNat 0)], [], [(some (0, 0, .negSucc 0), ([], []), [(.ofNat 0, .ofNat 100000, 0, .ofNat 0)])], [(false, (0, 0, .ofNat 0))])
/-- GridLawsModel.later, row 5 -/
def zc_l2255 : zC := (287, 5, 1, [(3, 88, .ofNat 0), (0, 0, .ofNat 728)], ([(88, (0, 0, .ofNat 28), (1, 0, .ofNat 0)), (1049, (0, 0, .ofNat 728), (0, 0, .ofNat 0))], []), [(.ofNat 0, .ofNat 100000, 0, .ofNat 0)], [], [(some (0, 0, .negSucc 0), ([], []), [(.ofNat 0, .ofNat 100000, 0, .ofNat 0)])], [(false, (0, 0, .ofNat 0))])
/-- GridLawsModel.later, row 5 -/
def zc_l2256 : zC := (287, 5, 1, [(3, 88, .ofNat 0), (0, 0, .ofNat 729)], ([(88, (0, 0, .ofNat 28), (1, 0, .ofNat 0)), (1049, (0, 0, .ofNat 729), (0, 0, .ofNat 0))], []), [(.ofNat 0, .ofNat 100000, 0, .ofNat 0)], [], [(some (0, 0, .negSucc 0), ([], []), [(.ofNat 0, .ofNat 100000, 0, .ofNat 0)])], [(false, (0, 0, .ofNat 0))])
/-- GridLawsModel.later, row 5 -/
def zc_l2257 : zC := (287, 5, 1, [(3, 88, .ofNat 0), (0, 0, .ofNat 730)], ([(88, (0, 0, .ofNat 28), (1, 0, .ofNat 0)), (1049, (0, 0, .ofNat 730), (0, 0, .ofNat 0))], []), [(.ofNat 0, .ofNat 100000, 0, .ofNat 0)], [], [(some (0, 0, .negSucc 0), ([], []), [(.ofNat 0, .ofNat 100000, 0, .ofNat 0)])], [(false, (0, 0, .ofNat 0))])
/-- GridLawsModel.later, row 5 -/
def zc_l2258 : zC := (287, 5, 1, [(3, 88, .ofNat 0), (0, 0, .ofNat 731)], ([(88, (0, 0, .ofNat 28), (1, 0, .ofNat 0)), (1049, (0, 0, .ofNat 731), (0, 0, .ofNat 0))], []), [(.ofNat 0, .ofNat 100000, 0, .ofNat 0)], [], [(some (0, 0, .negSucc 0), ([], []), [(.ofNat 0, .ofNat 100000, 0, .ofNat 0)])], [(false, (0, 0, .ofNat 0))])
/-- GridLawsModel.later, row 5 -/
def zc_l2259 : zC := (287, 5, 1, [(3, 88, .ofNat 0), (0, 0, .ofNat 732)], ([(88, (0, 0, .ofNat 28), (1, 0, .ofNat 0)), (1049, (0, 0, .ofNat 732), (0, 0, .ofNat 0))], []), [(.ofNat 0, .ofNat 100000, 0, .ofNat 0)], [], [(some (0, 0, .negSucc 0), ([], []), [(.ofNat 0, .ofNat 100000, 0, .ofNat 0)])], [(false, (0, 0, .ofNat 0))])
/-- GridLawsModel.later, row 5 -/
def zc_l2260 : zC := (287, 5, 1, [(3, 88, .ofNat 0), (0, 0, .ofNat 733)], ([(88, (0, 0, .ofNat 28), (1, 0, .ofNat 0)), (1049, (0, 0, .ofNat 733), (0, 0, .ofNat 0))], []), [(.ofNat 0, .ofNat 100000, 0, .ofNat 0)], [], [(some (0, 0, .negSucc 0), ([], []), [(.ofNat 0, .ofNat 100000, 0, .ofNat 0)])], [(false, (0, 0, .ofNat 0))])
/-- GridLawsModel.later, row 5 -/
def zc_l2261 : zC := (287, 5, 1, [(3, 88, .ofNat 0), (0, 0, .ofNat 734)], ([(88, (0, 0, .ofNat 28), (1, 0, .ofNat 0)), (1049, (0, 0, .ofNat 734), (0, 0, .ofNat 0))], []), [(.ofNat 0, .ofNat 100000, 0, .ofNat 0)], [], [(some (0, 0, .negSucc 0), ([], []), [(.ofNat 0, .ofNat 100000, 0, .ofNat 0)])], [(false, (0, 0, .ofNat 0))])
/-- GridLawsModel.later, row 5 -/
def zc_l2262 : zC := (287, 5, 1, [(3, 88, .ofNat 0), (0, 0, .ofNat 735)], ([(88, (0, 0, .ofNat 28), (1, 0, .ofNat 0)), (1049, (0, 0, .ofNat 735), (0, 0, .ofNat 0))], []), [(.ofNat 0, .ofNat 100000, 0, .ofNat 0)], [], [(some (0, 0, .negSucc 0), ([], []), [(.ofNat 0, .ofNat 100000, 0, .ofNat 0)])], [(false, (0, 0, .ofNat 0))])
/-- GridLawsModel.later, row 5 -/
def zc_l2263 : zC := (287, 5, 1, [(3, 88, .ofNat 0), (0, 0, .ofNat 736)], ([(88, (0, 0, .ofNat 28), (1, 0, .ofNat 0)), (1049, (0, 0, .ofNat 736), (0, 0, .ofNat 0))], []), [(.ofNat 0, .ofNat 100000, 0, .ofNat 0)], [], [(some (0, 0, .negSucc 0), ([], []), [(.ofNat 0, .ofNat 100000, 0, .ofNat 0)])], [(false, (0, 0, .ofNat 0))])
/-- GridLawsModel.later, row 5 -/
def zc_l2264 : zC := (287, 5, 1, [(3, 88, .ofNat 0), (0, 0, .ofNat 737)], ([(88, (0, 0, .ofNat 28), (1, 0, .ofNat 0)), (1049, (0, 0, .ofNat 737), (0, 0, .ofNat 0))], []), [(.ofNat 0, .ofNat 100000, 0, .ofNat 0)], [], [(some (0, 0, .negSucc 0), ([], []), [(.ofNat 0, .ofNat 100000, 0, .ofNat 0)])], [(false, (0, 0, .ofNat 0))])
/-- GridLawsModel.later, row 5 -/
def zc_l2265 : zC := (287, 5, 1, [(3, 88, .ofNat 0), (0, 0, .ofNat 738)], ([(88, (0, 0, .ofNat 28), (1, 0, .ofNat 0)), (1049, (0, 0, .ofNat 738), (0, 0, .ofNat 0))], []), [(.ofNat 0, .ofNat 100000, 0, .ofNat 0)], [], [(some (0, 0, .negSucc 0), ([], []), [(.ofNat 0, .ofNat 100000, 0, .ofNat 0)])], [(false, (0, 0, .ofNat 0))])
/-- GridLawsModel.later, row 5 -/
def zc_l2266 : zC := (287, 5, 1, [(3, 88, .ofNat 0), (0, 0, .ofNat 739)], ([(88, (0, 0, .ofNat 28), (1, 0, .ofNat 0)), (1049, (0, 0, .ofNat 739), (0, 0, .ofNat 0))], []), [(.ofNat 0, .ofNat 100000, 0, .ofNat 0)], [], [(some (0, 0, .negSucc 0), ([], []), [(.ofNat 0, .ofNat 100000, 0, .ofNat 0)])], [(false, (0, 0, .ofNat 0))])
/-- GridLawsModel.later, row 5 -/
def zc_l2267 : zC := (287, 5, 1, [(3, 88, .ofNat 0), (0, 0, .ofNat 740)], ([(88, (0, 0, .ofNat 28), (1, 0, .ofNat 0)), (1049, (0, 0, .ofNat 740), (0, 0, .ofNat 0))], []), [(.ofNat 0, .ofNat 100000, 0, .ofNat 0)], [], [(some (0, 0, .negSucc 0), ([], []), [(.ofNat 0, .ofNat 100000, 0, .ofNat 0)])], [(false, (0, 0, .ofNat 0))])
/-- GridLawsModel.later, row 5 -/
def zc_l2268 : zC := (287, 5, 1, [(3, 88, .ofNat 0), (0, 0, .ofNat 741)], ([(88, (0, 0, .ofNat 28), (1, 0, .ofNat 0)), (1049, (0, 0, .ofNat 741), (0, 0, .ofNat 0))], []), [(.ofNat 0, .ofNat 100000, 0, .ofNat 0)], [], [(some (0, 0, .negSucc 0), ([], []), [(.ofNat 0, .ofNat 100000, 0, .ofNat 0)])], [(false, (0, 0, .ofNat 0))])
/-- GridLawsModel.later, row 5 -/
def zc_l2269 : zC := (287, 5, 1, [(3, 88, .ofNat 0), (0, 0, .ofNat 742)], ([(88, (0, 0, .ofNat 28), (1, 0, .ofNat 0)), (1049, (0, 0, .ofNat 742), (0, 0, .ofNat 0))], []), [(.ofNat 0, .ofNat 100000, 0, .ofNat 0)], [], [(some (0, 0, .negSucc 0), ([], []), [(.ofNat 0, .ofNat 100000, 0, .ofNat 0)])], [(false, (0, 0, .ofNat 0))])
/-- GridLawsModel.later, row 5 -/
def zc_l2270 : zC := (287, 5, 1, [(3, 88, .ofNat 0), (0, 0, .ofNat 743)], ([(88, (0, 0, .ofNat 28), (1, 0, .ofNat 0)), (1049, (0, 0, .ofNat 743), (0, 0, .ofNat 0))], []), [(.ofNat 0, .ofNat 100000, 0, .ofNat 0)], [], [(some (0, 0, .negSucc 0), ([], []), [(.ofNat 0, .ofNat 100000, 0, .ofNat 0)])], [(false, (0, 0, .ofNat 0))])
/-- GridLawsModel.later, row 5 -/
def zc_l2271 : zC := (287, 5, 1, [(3, 88, .ofNat 0), (0, 0, .ofNat 744)], ([(88, (0, 0, .ofNat 28), (1, 0, .ofNat 0)), (1049, (0, 0, .ofNat 744), (0, 0, .ofNat 0))], []), [(.ofNat 0, .ofNat 100000, 0, .ofNat 0)], [], [(some (0, 0, .negSucc 0), ([], []), [(.ofNat 0, .ofNat 100000, 0, .ofNat 0)])], [(false, (0, 0, .ofNat 0))])
/-- GridLawsModel.later, row 5 -/
def zc_l2272 : zC := (287, 5, 1, [(3, 88, .ofNat 0), (0, 0, .ofNat 745)], ([(88, (0, 0, .ofNat 28), (1, 0, .ofNat 0)), (1049, (0, 0, .ofNat 745), (0, 0, .ofNat 0))], []), [(.ofNat 0, .ofNat 100000, 0, .ofNat 0)], [], [(some (0, 0, .negSucc 0), ([], []), [(.ofNat 0, .ofNat 100000, 0, .ofNat 0)])], [(false, (0, 0, .ofNat 0))])
/-- GridLawsModel.later, row 5 -/
def zc_l2273 : zC := (287, 5, 1, [(3, 88, .ofNat 0), (0, 0, .ofNat 746)], ([(88, (0, 0, .ofNat 28), (1, 0, .ofNat 0)), (1049, (0, 0, .ofNat 746), (0, 0, .ofNat 0))], []), [(.ofNat 0, .ofNat 100000, 0, .ofNat 0)], [], [(some (0, 0, .negSucc 0), ([], []), [(.ofNat 0, .ofNat 100000, 0, .ofNat 0)])], [(false, (0, 0, .ofNat 0))])
/-- GridLawsModel.later, row 5 -/
def zc_l2274 : zC := (287, 5, 1, [(3, 88, .ofNat 0), (0, 0, .ofNat 747)], ([(88, (0, 0, .ofNat 28), (1, 0, .ofNat 0)), (1049, (0, 0, .ofNat 747), (0, 0, .ofNat 0))], []), [(.ofNat 0, .ofNat 100000, 0, .ofNat 0)], [], [(some (0, 0, .negSucc 0), ([], []), [(.ofNat 0, .ofNat 100000, 0, .ofNat 0)])], [(false, (0, 0, .ofNat 0))])
/-- GridLawsModel.later, row 5 -/
def zc_l2275 : zC := (287, 5, 1, [(3, 88, .ofNat 0), (0, 0, .ofNat 748)], ([(88, (0, 0, .ofNat 28), (1, 0, .ofNat 0)), (1049, (0, 0, .ofNat 748), (0, 0, .ofNat 0))], []), [(.ofNat 0, .ofNat 100000, 0, .ofNat 0)], [], [(some (0, 0, .negSucc 0), ([], []), [(.ofNat 0, .ofNat 100000, 0, .ofNat 0)])], [(false, (0, 0, .ofNat 0))])
/-- GridLawsModel.later, row 5 -/
def zc_l2276 : zC := (287, 5, 1, [(3, 88, .ofNat 0), (0, 0, .ofNat 749)], ([(88, (0, 0, .ofNat 28), (1, 0, .ofNat 0)), (1049, (0, 0, .ofNat 749), (0, 0, .ofNat 0))], []), [(.ofNat 0, .ofNat 100000, 0, .ofNat 0)], [], [(some (0, 0, .negSucc 0), ([], []), [(.ofNat 0, .ofNat 100000, 0, .ofNat 0)])], [(false, (0, 0, .ofNat 0))])
/-- GridLawsModel.later, row 5 -/
def zc_l2277 : zC := (287, 5, 1, [(3, 88, .ofNat 0), (0, 0, .ofNat 750)], ([(88, (0, 0, .ofNat 28), (1, 0, .ofNat 0)), (1049, (0, 0, .ofNat 750), (0, 0, .ofNat 0))], []), [(.ofNat 0, .ofNat 100000, 0, .ofNat 0)], [], [(some (0, 0, .negSucc 0), ([], []), [(.ofNat 0, .ofNat 100000, 0, .ofNat 0)])], [(false, (0, 0, .ofNat 0))])
/-- GridLawsModel.later, row 5 -/
def zc_l2278 : zC := (287, 5, 1, [(3, 88, .ofNat 0), (0, 0, .ofNat 751)], ([(88, (0, 0, .ofNat 28), (1, 0, .ofNat 0)), (1049, (0, 0, .ofNat 751), (0, 0, .ofNat 0))], []), [(.ofNat 0, .ofNat 100000, 0, .ofNat 0)], [], [(some (0, 0, .negSucc 0), ([], []), [(.ofNat 0, .ofNat 100000, 0, .ofNat 0)])], [(false, (0, 0, .ofNat 0))])
/-- GridLawsModel.later, row 5 -/
def zc_l2279 : zC := (287, 5, 1, [(3, 88, .ofNat 0), (0, 0, .ofNat 752)], ([(88, (0, 0, .ofNat 28), (1, 0, .ofNat 0)), (1049, (0, 0, .ofNat 752), (0, 0, .ofNat 0))], []), [(.ofNat 0, .ofNat 100000, 0, .ofNat 0)], [], [(some (0, 0, .negSucc 0), ([], []), [(.ofNat 0, .ofNat 100000, 0, .ofNat 0)])], [(false, (0, 0, .ofNat 0))])
/-- GridLawsModel.later, row 5 -/
def zc_l2280 : zC := (287, 5, 1, [(3, 88, .ofNat 0), (0, 0, .ofNat 753)], ([(88, (0, 0, .ofNat 28), (1, 0, .ofNat 0)), (1049, (0, 0, .ofNat 753), (0, 0, .ofNat 0))], []), [(.ofNat 0, .ofNat 100000, 0, .ofNat 0)], [], [(some (0, 0, .negSucc 0), ([], []), [(.ofNat 0, .ofNat 100000, 0, .ofNat 0)])], [(false, (0, 0, .ofNat 0))])
/-- GridLawsModel.later, row 5 -/
def zc_l2281 : zC := (287, 5, 1, [(3, 88, .ofNat 0), (0, 0, .ofNat 754)], ([(88, (0, 0, .ofNat 28), (1, 0, .ofNat 0)), (1049, (0, 0, .ofNat 754), (0, 0, .ofNat 0))], []), [(.ofNat 0, .ofNat 100000, 0, .ofNat 0)], [], [(some (0, 0, .negSucc 0), ([], []), [(.ofNat 0, .ofNat 100000, 0, .ofNat 0)])], [(false, (0, 0, .ofNat 0))])
/-- GridLawsModel.later, row 5 -/
def zc_l2282 : zC := (287, 5, 1, [(3, 88, .ofNat 0), (0, 0, .ofNat 755)], ([(88, (0, 0, .ofNat 28), (1, 0, .ofNat 0)), (1049, (0, 0, .ofNat 755), (0, 0, .ofNat 0))], []), [(.ofNat 0, .ofNat 100000, 0, .ofNat 0)], [], [(some (0, 0, .negSucc 0), ([], []), [(.ofNat 0, .ofNat 100000, 0, .ofNat 0)])], [(false, (0, 0, .ofNat 0))])
/-- GridLawsModel.later, row 5 -/
def zc_l2283 : zC := (287, 5, 1, [(3, 88, .ofNat 0), (0, 0, .ofNat 756)], ([(88, (0, 0, .ofNat 28), (1, 0, .ofNat 0)), (1049, (0, 0, .ofNat 756), (0, 0, .ofNat 0))], []), [(.ofNat 0, .ofNat 100000, 0, .ofNat 0)], [], [(some (0, 0, .negSucc 0), ([], []), [(.ofNat 0, .ofNat 100000, 0, .ofNat 0)])], [(false, (0, 0, .ofNat 0))])
/-- GridLawsModel.later, row 5 -/
def zc_l2284 : zC := (287, 5, 1, [(3, 88, .ofNat 0), (0, 0, .ofNat 757)], ([(88, (0, 0, .ofNat 28), (1, 0, .ofNat 0)), (1049, (0, 0, .ofNat 757), (0, 0, .ofNat 0))], []), [(.ofNat 0, .ofNat 100000, 0, .ofNat 0)], [], [(some (0, 0, .negSucc 0), ([], []), [(.ofNat 0, .ofNat 100000, 0, .ofNat 0)])], [(false, (0, 0, .ofNat 0))])
/-- GridLawsModel.later, row 5 -/
def zc_l2285 : zC := (287, 5, 1, [(3, 88, .ofNat 0), (0, 0, .ofNat 758)], ([(88, (0, 0, .ofNat 28), (1, 0, .ofNat 0)), (1049, (0, 0, .ofNat 758), (0, 0, .ofNat 0))], []), [(.ofNat 0, .ofNat 100000, 0, .ofNat 0)], [], [(some (0, 0, .negSucc 0), ([], []), [(.ofNat 0, .ofNat 100000, 0, .ofNat 0)])], [(false, (0, 0, .ofNat 0))])
/-- GridLawsModel.later, row 5 -/
def zc_l2286 : zC := (287, 5, 1, [(3, 88, .ofNat 0), (0, 0, .ofNat 759)], ([(88, (0, 0, .ofNat 28), (1, 0, .ofNat 0)), (1049, (0, 0, .ofNat 759), (0, 0, .ofNat 0))], []), [(.ofNat 0, .ofNat 100000, 0, .ofNat 0)], [], [(some (0, 0, .negSucc 0), ([], []), [(.ofNat 0, .ofNat 100000, 0, .ofNat 0)])], [(false, (0, 0, .ofNat 0))])
/-- GridLawsModel.later, row 5 -/
def zc_l2287 : zC := (287, 5, 1, [(3, 88, .ofNat 0), (0, 0, .ofNat 760)], ([(88, (0, 0, .ofNat 28), (1, 0, .ofNat 0)), (1049, (0, 0, .ofNat 760), (0, 0, .ofNat 0))], []), [(.ofNat 0, .ofNat 100000, 0, .ofNat 0)], [], [(some (0, 0, .negSucc 0), ([], []), [(.ofNat 0, .ofNat 100000, 0, .ofNat 0)])], [(false, (0, 0, .ofNat 0))])
/-- GridLawsModel.later, row 5 -/
def zc_l2288 : zC := (287, 5, 1, [(3, 88, .ofNat 0), (0, 0, .ofNat 761)], ([(88, (0, 0, .ofNat 28), (1, 0, .ofNat 0)), (1049, (0, 0, .ofNat 761), (0, 0, .ofNat 0))], []), [(.ofNat 0, .ofNat 100000, 0, .ofNat 0)], [], [(some (0, 0, .negSucc 0), ([], []), [(.ofNat 0, .ofNat 100000, 0, .ofNat 0)])], [(false, (0, 0, .ofNat 0))])
/-- GridLawsModel.later, row 5 -/
def zc_l2289 : zC := (287, 5, 1, [(3, 88, .ofNat 0), (0, 0, .ofNat 762)], ([(88, (0, 0, .ofNat 28), (1, 0, .ofNat 0)), (1049, (0, 0, .ofNat 762), (0, 0, .ofNat 0))], []), [(.ofNat 0, .ofNat 100000, 0, .ofNat 0)], [], [(some (0, 0, .negSucc 0), ([], []), [(.ofNat 0, .ofNat 100000, 0, .ofNat 0)])], [(false, (0, 0, .ofNat 0))])
/-- GridLawsModel.later, row 5 -/
def zc_l2290 : zC := (287, 5, 1, [(3, 88, .ofNat 0), (0, 0, .ofNat 763)], ([(88, (0, 0, .ofNat 28), (1, 0, .ofNat 0)), (1049, (0, 0, .ofNat 763), (0, 0, .ofNat 0))], []), [(.ofNat 0, .ofNat 100000, 0, .ofNat 0)], [], [(some (0, 0, .negSucc 0), ([], []), [(.ofNat 0, .ofNat 100000, 0, .ofNat 0)])], [(false, (0, 0, .ofNat 0))])
/-- GridLawsModel.later, row 5 -/
def zc_l2291 : zC := (287, 5, 1, [(3, 88, .ofNat 0), (0, 0, .ofNat 764)], ([(88, (0, 0, .ofNat 28), (1, 0, .ofNat 0)), (1049, (0, 0, .ofNat 764), (0, 0, .ofNat 0))], []), [(.ofNat 0, .ofNat 100000, 0, .ofNat 0)], [], [(some (0, 0, .negSucc 0), ([], []), [(.ofNat 0, .ofNat 100000, 0, .ofNat 0)])], [(false, (0, 0, .ofNat 0))])
/-- GridLawsModel.later, row 5 -/
def zc_l2292 : zC := (287, 5, 1, [(3, 88, .ofNat 0), (0, 0, .ofNat 765)], ([(88, (0, 0, .ofNat 28), (1, 0, .ofNat 0)), (1049, (0, 0, .ofNat 765), (0, 0, .ofNat 0))], []), [(.ofNat 0, .ofNat 100000, 0, .ofNat 0)], [], [(some (0, 0, .negSucc 0), ([], []), [(.ofNat 0, .ofNat 100000, 0, .ofNat 0)])], [(false, (0, 0, .ofNat 0))])
/-- GridLawsModel.later, row 5 -/
def zc_l2293 : zC := (287, 5, 1, [(3, 88, .ofNat 0), (0, 0, .ofNat 766)], ([(88, (0, 0, .ofNat 28), (1, 0, .ofNat 0)), (1049, (0, 0, .ofNat 766), (0, 0, .ofNat 0))], []), [(.ofNat 0, .ofNat 100000, 0, .ofNat 0)], [], [(some (0, 0, .negSucc 0), ([], []), [(.ofNat 0, .ofNat 100000, 0, .ofNat 0)])], [(false, (0, 0, .ofNat 0))])
/-- GridLawsModel.later, row 5 -/
def zc_l2294 : zC := (287, 5, 1, [(3, 88, .ofNat 0), (0, 0, .ofNat 767)], ([(88, (0, 0, .ofNat 28), (1, 0, .ofNat 0)), (1049, (0, 0, .ofNat 767), (0, 0, .ofNat 0))], []), [(.ofNat 0, .ofNat 100000, 0, .ofNat 0)], [], [(some (0, 0, .negSucc 0), ([], []), [(.ofNat 0, .ofNat 100000, 0, .ofNat 0)])], [(false, (0, 0, .ofNat 0))])
/-- GridLawsModel.later, row 5 -/
def zc_l2295 : zC := (287, 5, 1, [(3, 88, .ofNat 0), (0, 0, .ofNat 768)], ([(88, (0, 0, .ofNat 28), (1, 0, .ofNat 0)), (1049, (0, 0, .ofNat 768), (0, 0, .ofNat 0))], []), [(.ofNat 0, .ofNat 100000, 0, .ofNat 0)], [], [(some (0, 0, .negSucc 0), ([], []), [(.ofNat 0, .ofNat 100000, 0, .ofNat 0)])], [(false, (0, 0, .ofNat 0))])
/-- GridLawsModel.later, row 5 -/
def zc_l2296 : zC := (287, 5, 1, [(3, 88, .ofNat 0), (0, 0, .ofNat 769)], ([(88, (0, 0, .ofNat 28), (1, 0, .ofNat 0)), (1049, (0, 0, .ofNat 769), (0, 0, .ofNat 0))], []), [(.ofNat 0, .ofNat 100000, 0, .ofNat 0)], [], [(some (0, 0, .negSucc 0), ([], []), [(.ofNat 0, .ofNat 100000, 0, .ofNat 0)])], [(false, (0, 0, .ofNat 0))])
/-- GridLawsModel.later, row 5 -/
def zc_l2297 : zC := (287, 5, 1, [(3, 88, .ofNat 0), (0, 0, .ofNat 770)], ([(88, (0, 0, .ofNat 28), (1, 0, .ofNat 0)), (1049, (0, 0, .ofNat 770), (0, 0, .ofNat 0))], []), [(.ofNat 0, .ofNat 100000, 0, .ofNat 0)], [], [(some (0, 0, .negSucc 0), ([], []), [(.ofNat 0, .ofNat 100000, 0, .ofNat 0)])], [(false, (0, 0, .ofNat 0))])
/-- GridLawsModel.later, row 5 -/
def zc_l2298 : zC := (287, 5, 1, [(3, 88, .ofNat 0), (0, 0, .ofNat 771)], ([(88, (0, 0, .ofNat 28), (1, 0, .ofNat 0)), (1049, (0, 0, .ofNat 771), (0, 0, .ofNat 0))], []), [(.ofNat 0, .ofNat 100000, 0, .ofNat 0)], [], [(some (0, 0, .negSucc 0), ([], []), [(.ofNat 0, .ofNat 100000, 0, .ofNat 0)])], [(false, (0, 0, .ofNat 0))])
/-- GridLawsModel.later, row 5 -/
def zc_l2299 : zC := (287, 5, 1, [(3, 88, .ofNat 0), (0, 0, .ofNat 772)], ([(88, (0, 0, .ofNat 28), (1, 0, .ofNat 0)), (1049, (0, 0, .ofNat 772), (0, 0, .ofNat 0))], []), [(.ofNat 0, .ofNat 100000, 0, .ofNat 0)], [], [(some (0, 0, .negSucc 0), ([], []), [(.ofNat 0, .ofNat 100000, 0, .ofNat 0)])], [(false, (0, 0, .ofNat 0))])
/-- GridLawsModel.later, row 5 -/
def zc_l2300 : zC := (287, 5, 1, [(3, 88, .ofNat 0), (0, 0, .ofNat 773)], ([(88, (0, 0, .ofNat 28), (1, 0, .ofNat 0)), (1049, (0, 0, .ofNat 773), (0, 0, .ofNat 0))], []), [(.ofNat 0, .ofNat 100000, 0, .ofNat 0)], [], [(some (0, 0, .negSucc 0), ([], []), [(.ofNat 0, .ofNat 100000, 0, .ofNat 0)])], [(false, (0, 0, .ofNat 0))])
/-- GridLawsModel.later, row 5 -/
def zc_l2301 : zC := (287, 5, 1, [(3, 88, .ofNat 0), (0, 0, .ofNat 774)], ([(88, (0, 0, .ofNat 28), (1, 0, .ofNat 0)), (1049, (0, 0, .ofNat 774), (0, 0, .ofNat 0))], []), [(.ofNat 0, .ofNat 100000, 0, .ofNat 0)], [], [(some (0, 0, .negSucc 0), ([], []), [(.ofNat 0, .ofNat 100000, 0, .ofNat 0)])], [(false, (0, 0, .ofNat 0))])
/-- GridLawsModel.later, row 5 -/
def zc_l2302 : zC := (287, 5, 1, [(3, 88, .ofNat 0), (0, 0, .ofNat 775)], ([(88, (0, 0, .ofNat 28), (1, 0, .ofNat 0)), (1049, (0, 0, .ofNat 775), (0, 0, .ofNat 0))], []), [(.ofNat 0, .ofNat 100000, 0, .ofNat 0)], [], [(some (0, 0, .negSucc 0), ([], []), [(.ofNat 0, .ofNat 100000, 0, .ofNat 0)])], [(false, (0, 0, .ofNat 0))])
/-- GridLawsModel.later, row 5 -/
def zc_l2303 : zC := (287, 5, 1, [(3, 88, .ofNat 0), (0, 0, .ofNat 776)], ([(88, (0, 0, .ofNat 28), (1, 0, .ofNat 0)), (1049, (0, 0, .ofNat 776), (0, 0, .ofNat 0))], []), [(.ofNat 0, .ofNat 100000, 0, .ofNat 0)], [], [(some (0, 0, .negSucc 0), ([], []), [(.ofNat 0, .ofNat 100000, 0, .ofNat 0)])], [(false, (0, 0, .ofNat 0))])
/-- GridLawsModel.later, row 5 -/
def zc_l2304 : zC := (287, 5, 1, [(3, 88, .ofNat 0), (0, 0, .ofNat 777)], ([(88, (0, 0, .ofNat 28), (1, 0, .ofNat 0)), (1049, (0, 0, .ofNat 777), (0, 0, .ofNat 0))], []), [(.ofNat 0, .ofNat 100000, 0, .ofNat 0)], [], [(some (0, 0, .negSucc 0), ([], []), [(.ofNat 0, .ofNat 100000, 0, .ofNat 0)])], [(false, (0, 0, .ofNat 0))])
/-- GridLawsModel.later, row 5 -/
def zc_l2305 : zC := (287, 5, 1, [(3, 88, .ofNat 0), (0, 0, .ofNat 778)], ([(88, (0, 0, .ofNat 28), (1, 0, .ofNat 0)), (1049, (0, 0, .ofNat 778), (0, 0, .ofNat 0))], []), [(.ofNat 0, .ofNat 100000, 0, .ofNat 0)], [], [(some (0, 0, .negSucc 0), ([], []), [(.ofNat 0, .ofNat 100000, 0, .ofNat 0)])], [(false, (0, 0, .ofNat 0))])
/-- GridLawsModel.later, row 5 -/
def zc_l2306 : zC := (287, 5, 1, [(3, 88, .ofNat 0), (0, 0, .ofNat 779)], ([(88, (0, 0, .ofNat 28), (1, 0, .ofNat 0)), (1049, (0, 0, .ofNat 779), (0, 0, .ofNat 0))], []), [(.ofNat 0, .ofNat 100000, 0, .ofNat 0)], [], [(some (0, 0, .negSucc 0), ([], []), [(.ofNat 0, .ofNat 100000, 0, .ofNat 0)])], [(false, (0, 0, .ofNat 0))])
/-- GridLawsModel.later, row 5 -/
def zc_l2307 : zC := (287, 5, 1, [(3, 88, .ofNat 0), (0, 0, .ofNat 780)], ([(88, (0, 0, .ofNat 28), (1, 0, .ofNat 0)), (1049, (0, 0, .ofNat 780), (0, 0, .ofNat 0))], []), [(.ofNat 0, .ofNat 100000, 0, .ofNat 0)], [], [(some (0, 0, .negSucc 0), ([], []), [(.ofNat 0, .ofNat 100000, 0, .ofNat 0)])], [(false, (0, 0, .ofNat 0))])
/-- GridLawsModel.later, row 5 -/
def zc_l2308 : zC := (287, 5, 1, [(3, 88, .ofNat 0), (0, 0, .ofNat 781)], ([(88, (0, 0, .ofNat 28), (1, 0, .ofNat 0)), (1049, (0, 0, .ofNat 781), (0, 0, .ofNat 0))], []), [(.ofNat 0, .ofNat 100000, 0, .ofNat 0)], [], [(some (0, 0, .negSucc 0), ([], []), [(.ofNat 0, .ofNat 100000, 0, .ofNat 0)])], [(false, (0, 0, .ofNat 0))])
/-- GridLawsModel.later, row 5 -/
def zc_l2309 : zC := (287, 5, 1, [(3, 88, .ofNat 0), (0, 0, .ofNat 782)], ([(88, (0, 0, .ofNat 28), (1, 0, .ofNat 0)), (1049, (0, 0, .ofNat 782), (0, 0, .ofNat 0))], []), [(.ofNat 0, .ofNat 100000, 0, .ofNat 0)], [], [(some (0, 0, .negSucc 0), ([], []), [(.ofNat 0, .ofNat 100000, 0, .ofNat 0)])], [(false, (0, 0, .ofNat 0))])
/-- GridLawsModel.later, row 5 -/
def zc_l2310 : zC := (287, 5, 1, [(3, 88, .ofNat 0), (0, 0, .ofNat 783)], ([(88, (0, 0, .ofNat 28), (1, 0, .ofNat 0)), (1049, (0, 0, .ofNat 783), (0, 0, .ofNat 0))], []), [(.ofNat 0, .ofNat 100000, 0, .ofNat 0)], [], [(some (0, 0, .negSucc 0), ([], []), [(.ofNat 0, .ofNat 100000, 0, .ofNat 0)])], [(false, (0, 0, .ofNat 0))])
/-- GridLawsModel.later, row 5 -/
def zc_l2311 : zC := (287, 5, 1, [(3, 88, .ofNat 0), (0, 0, .ofNat 784)], ([(88, (0, 0, .ofNat 28), (1, 0, .ofNat 0)), (1049, (0, 0, .ofNat 784), (0, 0, .ofNat 0))], []), [(.ofNat 0, .ofNat 100000, 0, .ofNat 0)], [], [(some (0, 0, .negSucc 0), ([], []), [(.ofNat 0, .ofNat 100000, 0, .ofNat 0)])], [(false, (0, 0, .ofNat 0))])
/-- GridLawsModel.later, row 5 -/
def zc_l2312 : zC := (287, 5, 1, [(3, 88, .ofNat 0), (0, 0, .ofNat 785)], ([(88, (0, 0, .ofNat 28), (1, 0, .ofNat 0)), (1049, (0, 0, .ofNat 785), (0, 0, .ofNat 0))], []), [(.ofNat 0, .ofNat 100000, 0, .ofNat 0)], [], [(some (0, 0, .negSucc 0), ([], []), [(.ofNat 0, .ofNat 100000, 0, .ofNat 0)])], [(false, (0, 0, .ofNat 0))])
/-- GridLawsModel.later, row 5 -/
def zc_l2313 : zC := (287, 5, 1, [(3, 88, .ofNat 0), (0, 0, .ofNat 786)], ([(88, (0, 0, .ofNat 28), (1, 0, .ofNat 0)), (1049, (0, 0, .ofNat 786), (0, 0, .ofNat 0))], []), [(.ofNat 0, .ofNat 100000, 0, .ofNat 0)], [], [(some (0, 0, .negSucc 0), ([], []), [(.ofNat 0, .ofNat 100000, 0, .ofNat 0)])], [(false, (0, 0, .ofNat 0))])
/-- GridLawsModel.later, row 5 -/
def zc_l2314 : zC := (287, 5, 1, [(3, 88, .ofNat 0), (0, 0, .ofNat 787)], ([(88, (0, 0, .ofNat 28), (1, 0, .ofNat 0)), (1049, (0, 0, .ofNat 787), (0, 0, .ofNat 0))], []), [(.ofNat 0, .ofNat 100000, 0, .ofNat 0)], [], [(some (0, 0, .negSucc 0), ([], []), [(.ofNat 0, .ofNat 100000, 0, .ofNat 0)])], [(false, (0, 0, .ofNat 0))])
/-- GridLawsModel.later, row 5 -/
def zc_l2315 : zC := (287, 5, 1, [(3, 88, .ofNat 0), (0, 0, .ofNat 788)], ([(88, (0, 0, .ofNat 28), (1, 0, .ofNat 0)), (1049, (0, 0, .ofNat 788), (0, 0, .ofNat 0))], []), [(.ofNat 0, .ofNat 100000, 0, .ofNat 0)], [], [(some (0, 0, .negSucc 0), ([], []), [(.ofNat 0, .ofNat 100000, 0, .ofNat 0)])], [(false, (0, 0, .ofNat 0))])
/-- GridLawsModel.later, row 5 -/
def zc_l2316 : zC := (287, 5, 1, [(3, 88, .ofNat 0), (0, 0, .ofNat 789)], ([(88, (0, 0, .ofNat 28), (1, 0, .ofNat 0)), (1049, (0, 0, .ofNat 789), (0, 0, .ofNat 0))], []), [(.ofNat 0, .ofNat 100000, 0, .ofNat 0)], [], [(some (0, 0, .negSucc 0), ([], []), [(.ofNat 0, .ofNat 100000, 0, .ofNat 0)])], [(false, (0, 0, .ofNat 0))])
/-- GridLawsModel.later, row 5 -/
def zc_l2317 : zC := (287, 5, 1, [(3, 88, .ofNat 0), (0, 0, .ofNat 790)], ([(88, (0, 0, .ofNat 28), (1, 0, .ofNat 0)), (1049, (0, 0, .ofNat 790), (0, 0, .ofNat 0))], []), [(.ofNat 0, .ofNat 100000, 0, .ofNat 0)], [], [(some (0, 0, .negSucc 0), ([], []), [(.ofNat 0, .ofNat 100000, 0, .ofNat 0)])], [(false, (0, 0, .ofNat 0))])
/-- GridLawsModel.later, row 5 -/
def zc_l2318 : zC := (287, 5, 1, [(3, 88, .ofNat 0), (0, 0, .ofNat 791)], ([(88, (0, 0, .ofNat 28), (1, 0, .ofNat 0)), (1049, (0, 0, .ofNat 791), (0, 0, .ofNat 0))], []), [(.ofNat 0, .ofNat 100000, 0, .ofNat 0)], [], [(some (0, 0, .negSucc 0), ([], []), [(.ofNat 0, .ofNat 100000, 0, .ofNat 0)])], [(false, (0, 0, .ofNat 0))])
/-- GridLawsModel.later, row 5 -/
def zc_l2319 : zC := (287, 5, 1, [(3, 88, .ofNat 0), (0, 0, .ofNat 792)], ([(88, (0, 0, .ofNat 28), (1, 0, .ofNat 0)), (1049, (0, 0, .ofNat 792), (0, 0, .ofNat 0))], []), [(.ofNat 0, .ofNat 100000, 0, .ofNat 0)], [], [(some (0, 0, .negSucc 0), ([], []), [(.ofNat 0, .ofNat 100000, 0, .ofNat 0)])], [(false, (0, 0, .ofNat 0))])
/-- GridLawsModel.later, row 5 -/
def zc_l2320 : zC := (287, 5, 1, [(3, 88, .ofNat 0), (0, 0, .ofNat 793)], ([(88, (0, 0, .ofNat 28), (1, 0, .ofNat 0)), (1049, (0, 0, .ofNat 793), (0, 0, .ofNat 0))], []), [(.ofNat 0, .ofNat 100000, 0, .ofNat 0)], [], [(some (0, 0, .negSucc 0), ([], []), [(.ofNat 0, .ofNat 100000, 0, .ofNat 0)])], [(false, (0, 0, .ofNat 0))])
/-- GridLawsModel.later, row 5 -/
def zc_l2321 : zC := (287, 5, 1, [(3, 88, .ofNat 0), (0, 0, .ofNat 794)], ([(88, (0, 0, .ofNat 28), (1, 0, .ofNat 0)), (1049, (0, 0, .ofNat 794), (0, 0, .ofNat 0))], []), [(.ofNat 0, .ofNat 100000, 0, .ofNat 0)], [], [(some (0, 0, .negSucc 0), ([], []), [(.ofNat 0, .ofNat 100000, 0, .ofNat 0)])], [(false, (0, 0, .ofNat 0))])
/-- GridLawsModel.later, row 5 -/
def zc_l2322 : zC := (287, 5, 1, [(3, 88, .ofNat 0), (0, 0, .ofNat 795)], ([(88, (0, 0, .ofNat 28), (1, 0, .ofNat 0)), (1049, (0, 0, .ofNat 795), (0, 0, .ofNat 0))], []), [(.ofNat 0, .ofNat 100000, 0, .ofNat 0)], [], [(some (0, 0, .negSucc 0), ([], []), [(.ofNat 0, .ofNat 100000, 0, .ofNat 0)])], [(false, (0, 0, .ofNat 0))])
/-- GridLawsModel.later, row 5 -/
def zc_l2323 : zC := (287, 5, 1, [(3, 88, .ofNat 0), (0, 0, .ofNat 796)], ([(88, (0, 0, .ofNat 28), (1, 0, .ofNat 0)), (1049, (0, 0, .ofNat 796), (0, 0, .ofNat 0))], []), [(.ofNat 0, .ofNat 100000, 0, .ofNat 0)], [], [(some (0, 0, .negSucc 0), ([], []), [(.ofNat 0, .ofNat 100000, 0, .ofNat 0)])], [(false, (0, 0, .ofNat 0))])
/-- GridLawsModel.later, row 5 -/
def zc_l2324 : zC := (287, 5, 1, [(3, 88, .ofNat 0), (0, 0, .ofNat 797)], ([(88, (0, 0, .ofNat 28), (1, 0, .ofNat 0)), (1049, (0, 0, .ofNat 797), (0, 0, .ofNat 0))], []), [(.ofNat 0, .ofNat 100000, 0, .ofNat 0)], [], [(some (0, 0, .negSucc 0), ([], []), [(.ofNat 0, .ofNat 100000, 0, .ofNat 0)])], [(false, (0, 0, .ofNat 0))])
/-- GridLawsModel.later, row 5 -/
def zc_l2325 : zC := (287, 5, 1, [(3, 88, .ofNat 0), (0, 0, .ofNat 798)], ([(88, (0, 0, .ofNat 28), (1, 0, .ofNat 0)), (1049, (0, 0, .ofNat 798), (0, 0, .ofNat 0))], []), [(.ofNat 0, .ofNat 100000, 0, .ofNat 0)], [], [(some (0, 0, .negSucc 0), ([], []), [(.ofNat 0, .ofNat 100000, 0, .ofNat 0)])], [(false, (0, 0, .ofNat 0))])
/-- GridLawsModel.later, row 5 -/
def zc_l2326 : zC := (287, 5, 1, [(3, 88, .ofNat 0), (0, 0, .ofNat 799)], ([(88, (0, 0, .ofNat 28), (1, 0, .ofNat 0)), (1049, (0, 0, .ofNat 799), (0, 0, .ofNat 0))], []), [(.ofNat 0, .ofNat 100000, 0, .ofNat 0)], [], [(some (0, 0, .negSucc 0), ([], []), [(.ofNat 0, .ofNat 100000, 0, .ofNat 0)])], [(false, (0, 0, .ofNat 0))])
def zgl_l2226_0 : List zC := [zc_l2226, zc_l2227, zc_l2228, zc_l2229, zc_l2230, zc_l2231, zc_l2232, zc_l2233, zc_l2234, zc_l2235, zc_l2236, zc_l2237, zc_l2238, zc_l2239, zc_l2240, zc_l2241]
def zgl_l2226_1 : List zC := [zc_l2242, zc_l2243, zc_l2244, zc_l2245, zc_l2246, zc_l2247, zc_l2248, zc_l2249, zc_l2250, zc_l2251, zc_l2252, zc_l2253, zc_l2254, zc_l2255, zc_l2256, zc_l2257]
def zgl_l2226_2 : List zC := [zc_l2258, zc_l2259, zc_l2260, zc_l2261, zc_l2262, zc_l2263, zc_l2264, zc_l2265, zc_l2266, zc_l2267, zc_l2268, zc_l2269, zc_l2270, zc_l2271, zc_l2272, zc_l2273]
def zgl_l2226_3 : List zC := [zc_l2274, zc_l2275, zc_l2276, zc_l2277, zc_l2278, zc_l2279, zc_l2280, zc_l2281, zc_l2282, zc_l2283, zc_l2284, zc_l2285, zc_l2286, zc_l2287, zc_l2288, zc_l2289]
def zgl_l2226_4 : List zC := [zc_l2290, zc_l2291, zc_l2292, zc_l2293, zc_l2294, zc_l2295, zc_l2296, zc_l2297, zc_l2298, zc_l2299, zc_l2300, zc_l2301, zc_l2302, zc_l2303, zc_l2304, zc_l2305]
def zgl_l2226_5 : List zC := [zc_l2306, zc_l2307, zc_l2308, zc_l2309, zc_l2310, zc_l2311, zc_l2312, zc_l2313, zc_l2314, zc_l2315, zc_l2316, zc_l2317, zc_l2318, zc_l2319, zc_l2320, zc_l2321]
def zgl_l2226_6 : List zC := [zc_l2322, zc_l2323, zc_l2324, zc_l2325, zc_l2326]
def zgl_l2226 : List zC := zgl_l2226_0 ++ (zgl_l2226_1 ++ (zgl_l2226_2 ++ (zgl_l2226_3 ++ (zgl_l2226_4 ++ (zgl_l2226_5 ++ (zgl_l2226_6))))))
def zgh_l2226_0 : List (zC × zHt) := [(zc_l2226, [(5, 0, 0), (5, 1, 0)]), (zc_l2227, [(13, 2, 94)]), (zc_l2228, [(13, 2, 94)]), (zc_l2229, [(13, 2, 94)]), (zc_l2230, [(13, 2, 94)]), (zc_l2231, [(13, 2, 94)]), (zc_l2232, [(13, 2, 94)]), (zc_l2233, [(13, 2, 94)]), (zc_l2234, [(13, 2, 94)]), (zc_l2235, [(13, 2, 94)]), (zc_l2236, [(13, 2, 94)]), (zc_l2237, [(13, 2, 94)]), (zc_l2238, [(13, 2, 94)]), (zc_l2239, [(13, 2, 94)]), (zc_l2240, [(13, 2, 94)]), (zc_l2241, [(13, 2, 94)])]
def zgh_l2226_1 : List (zC × zHt) := [(zc_l2242, [(13, 2, 94)]), (zc_l2243, [(13, 2, 94)]), (zc_l2244, [(13, 2, 94)]), (zc_l2245, [(13, 2, 94)]), (zc_l2246, [(13, 2, 94)]), (zc_l2247, [(13, 2, 94)]), (zc_l2248, [(13, 2, 94)]), (zc_l2249, [(13, 2, 94)]), (zc_l2250, [(13, 2, 94)]), (zc_l2251, [(13, 2, 94)]), (zc_l2252, [(13, 2, 94)]), (zc_l2253, [(13, 2, 94)]), (zc_l2254, [(13, 2, 94)]), (zc_l2255, [(13, 2, 94)]), (zc_l2256, [(13, 2, 94)]), (zc_l2257, [(13, 2, 94)])]
def zgh_l2226_2 : List (zC × zHt) := [(zc_l2258, [(13, 2, 94)]), (zc_l2259, [(13, 2, 94)]), (zc_l2260, [(13, 2, 94)]), (zc_l2261, [(13, 2, 94)]), (zc_l2262, [(13, 2, 94)]), (zc_l2263, [(13, 2, 94)]), (zc_l2264, [(13, 2, 94)]), (zc_l2265, [(13, 2, 94)]), (zc_l2266, [(13, 2, 94)]), (zc_l2267, [(13, 2, 94)]), (zc_l2268, [(13, 2, 94)]), (zc_l2269, [(13, 2, 94)]), (zc_l2270, [(13, 2, 94)]), (zc_l2271, [(13, 2, 94)]), (zc_l2272, [(13, 2, 94)]), (zc_l2273, [(13, 2, 94)])]
def zgh_l2226_3 : List (zC × zHt) := [(zc_l2274, [(13, 2, 94)]), (zc_l2275, [(13, 2, 94)]), (zc_l2276, [(13, 2, 94)]), (zc_l2277, [(13, 2, 94)]), (zc_l2278, [(13, 2, 94)]), (zc_l2279, [(13, 2, 94)]), (zc_l2280, [(13, 2, 94)]), (zc_l2281, [(13, 2, 94)]), (zc_l2282, [(13, 2, 94)]), (zc_l2283, [(13, 2, 94)]), (zc_l2284, [(13, 2, 94)]), (zc_l2285, [(13, 2, 94)]), (zc_l2286, [(13, 2, 94)]), (zc_l2287, [(13, 2, 94)]), (zc_l2288, [(13, 2, 94)]), (zc_l2289, [(13, 2, 94)])]
def zgh_l2226_4 : List (zC × zHt) := [(zc_l2290, [(13, 2, 94)]), (zc_l2291, [(13, 2, 94)]), (zc_l2292, [(13, 2, 94)]), (zc_l2293, [(13, 2, 94)]), (zc_l2294, [(13, 2, 94)]), (zc_l2295, [(13, 2, 94)]), (zc_l2296, [(13, 2, 94)]), (zc_l2297, [(13, 2, 94)]), (zc_l2298, [(13, 2, 94)]), (zc_l2299, [(13, 2, 94)]), (zc_l2300, [(13, 2, 94)]), (zc_l2301, [(13, 2, 94)]), (zc_l2302, [(13, 2, 94)]), (zc_l2303, [(13, 2, 94)]), (zc_l2304, [(13, 2, 94)]), (zc_l2305, [(13, 2, 94)])]
def zgh_l2226_5 : List (zC × zHt) := [(zc_l2306, [(13, 2, 94)]), (zc_l2307, [(13, 2, 94)]), (zc_l2308, [(13, 2, 94)]), (zc_l2309, [(13, 2, 94)]), (zc_l2310, [(13, 2, 94)]), (zc_l2311, [(13, 2, 94)]), (zc_l2312, [(13, 2, 94)]), (zc_l2313, [(13, 2, 94)]), (zc_l2314, [(13, 2, 94)]), (zc_l2315, [(13, 2, 94)]), (zc_l2316, [(13, 2, 94)]), (zc_l2317, [(13, 2, 94)]), (zc_l2318, [(13, 2, 94)]), (zc_l2319, [(13, 2, 94)]), (zc_l2320, [(13, 2, 94)]), (zc_l2321, [(13, 2, 94)])]
def zgh_l2226_6 : List (zC × zHt) := [(zc_l2322, [(13, 2, 94)]), (zc_l2323, [(13, 2, 94)]), (zc_l2324, [(13, 2, 94)]), (zc_l2325, [(13, 2, 94)]), (zc_l2326, [(13, 2, 94)])]
theorem zge_l2226_0 : zgh_l2226_0.map Prod.fst = zgl_l2226_0 := rfl
theorem zge_l2226_1 : zgh_l2226_1.map Prod.fst = zgl_l2226_1 := rfl
theorem zge_l2226_2 : zgh_l2226_2.map Prod.fst = zgl_l2226_2 := rfl
theorem zge_l2226_3 : zgh_l2226_3.map Prod.fst = zgl_l2226_3 := rfl
theorem zge_l2226_4 : zgh_l2226_4.map Prod.fst = zgl_l2226_4 := rfl
theorem zge_l2226_5 : zgh_l2226_5.map Prod.fst = zgl_l2226_5 := rfl
theorem zge_l2226_6 : zgh_l2226_6.map Prod.fst = zgl_l2226_6 := rfl
theorem zge_l2226 : (zgh_l2226_0 ++ (zgh_l2226_1 ++ (zgh_l2226_2 ++ (zgh_l2226_3 ++ (zgh_l2226_4 ++ (zgh_l2226_5 ++ (zgh_l2226_6))))))).map Prod.fst = zgl_l2226 := by
  rw [List.map_append, zge_l2226_0, List.map_append, zge_l2226_1, List.map_append, zge_l2226_2, List.map_append, zge_l2226_3, List.map_append, zge_l2226_4, List.map_append, zge_l2226_5, zge_l2226_6]
  rfl
