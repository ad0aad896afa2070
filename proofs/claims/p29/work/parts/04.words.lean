set_option maxRecDepth 20000 in
theorem kw_86 : Cond.initialized "FourHandsLaw" ∈ tb := mem_tb 86 rfl rfl
set_option maxRecDepth 20000 in
theorem kw_87 : Cond.initialized "FourHands" ∈ tb := mem_tb 87 rfl rfl
set_option maxRecDepth 20000 in
theorem kw_88 : Cond.initialized "FourHands$Piece" ∈ tb := mem_tb 88 rfl rfl
set_option maxRecDepth 20000 in
theorem kw_89 : Cond.initialized "java/util/Arrays" ∈ tb := mem_tb 89 rfl rfl
set_option maxRecDepth 20000 in
theorem kw_90 : Cond.initialized "FourHands$Script" ∈ tb := mem_tb 90 rfl rfl
set_option maxRecDepth 20000 in
theorem kw_91 : Cond.initialized "FourHands$Handing" ∈ tb := mem_tb 91 rfl rfl
set_option maxRecDepth 20000 in
theorem kw_92 : Cond.initialized "FourHands$Fingering" ∈ tb := mem_tb 92 rfl rfl
set_option maxRecDepth 20000 in
theorem kw_93 : Cond.initialized "FourHands$Pedalling" ∈ tb := mem_tb 93 rfl rfl
set_option maxRecDepth 20000 in
theorem kw_94 : Cond.initialized "FourHands$Practising" ∈ tb := mem_tb 94 rfl rfl
set_option maxRecDepth 20000 in
theorem kw_95 : Cond.initialized "FourHandsModel" ∈ tb := mem_tb 95 rfl rfl
set_option maxRecDepth 20000 in
theorem kw_96 : Cond.initialized "java/lang/Math" ∈ tb := mem_tb 96 rfl rfl
set_option maxRecDepth 20000 in
theorem kw_97 : Cond.initialized "java/lang/String" ∈ tb := mem_tb 97 rfl rfl
set_option maxRecDepth 20000 in
theorem kw_98 : Cond.initialized "java/lang/StringLatin1" ∈ tb := mem_tb 98 rfl rfl
set_option maxRecDepth 20000 in
theorem kw_99 : Cond.initialized "jdk/internal/util/Preconditions" ∈ tb := mem_tb 99 rfl rfl
set_option maxRecDepth 20000 in
theorem kw_100 : Cond.initialized "java/lang/StringUTF16" ∈ tb := mem_tb 100 rfl rfl
set_option maxRecDepth 20000 in
theorem kw_101 : Cond.initialized "java/lang/System" ∈ tb := mem_tb 101 rfl rfl
set_option maxRecDepth 20000 in
theorem kw_102 : Cond.initialized "java/lang/Integer" ∈ tb := mem_tb 102 rfl rfl
set_option maxRecDepth 20000 in
theorem kw_103 : Cond.classLink "FourHandsLaw" 7 "FourHands" ∈ tb := mem_tb 103 rfl rfl
set_option maxRecDepth 20000 in
theorem kw_104 : Cond.instantiable "FourHands" 14 ∈ tb := mem_tb 104 rfl rfl
set_option maxRecDepth 20000 in
theorem kw_111 : Cond.classLink "FourHands" 7 "FourHands$Piece" ∈ tb := mem_tb 111 rfl rfl
set_option maxRecDepth 20000 in
theorem kw_112 : Cond.instantiable "FourHands$Piece" 18 ∈ tb := mem_tb 112 rfl rfl
set_option maxRecDepth 20000 in
theorem kw_120 : Cond.fieldLink "FourHands$Piece" 9 "FourHands$Piece" "near" "I" ∈ tb := mem_tb 120 rfl rfl
set_option maxRecDepth 20000 in
theorem kw_121 : Cond.fieldLink "FourHands" 299 "FourHands$Piece" "near" "I" ∈ tb := mem_tb 121 rfl rfl
set_option maxRecDepth 20000 in
theorem kw_122 : Cond.fieldLink "FourHands$Piece" 61 "FourHands$Piece" "notes" "I" ∈ tb := mem_tb 122 rfl rfl
set_option maxRecDepth 20000 in
theorem kw_123 : Cond.fieldLink "FourHands" 70 "FourHands$Piece" "notes" "I" ∈ tb := mem_tb 123 rfl rfl
set_option maxRecDepth 20000 in
theorem kw_124 : Cond.fieldLink "FourHands$Handing" 38 "FourHands$Piece" "notes" "I" ∈ tb := mem_tb 124 rfl rfl
set_option maxRecDepth 20000 in
theorem kw_125 : Cond.fieldLink "FourHands$Pedalling" 28 "FourHands$Piece" "notes" "I" ∈ tb := mem_tb 125 rfl rfl
set_option maxRecDepth 20000 in
theorem kw_126 : Cond.fieldLink "FourHands$Fingering" 39 "FourHands$Piece" "notes" "I" ∈ tb := mem_tb 126 rfl rfl
set_option maxRecDepth 20000 in
theorem kw_127 : Cond.fieldLink "FourHands$Practising" 47 "FourHands$Piece" "notes" "I" ∈ tb := mem_tb 127 rfl rfl
set_option maxRecDepth 20000 in
theorem kw_128 : Cond.fieldLink "FourHands$Script" 58 "FourHands$Piece" "notes" "I" ∈ tb := mem_tb 128 rfl rfl
set_option maxRecDepth 20000 in
theorem kw_129 : Cond.fieldLink "FourHands$Piece" 15 "FourHands$Piece" "keys" "[I" ∈ tb := mem_tb 129 rfl rfl
set_option maxRecDepth 20000 in
theorem kw_130 : Cond.fieldLink "FourHands$Pedalling" 50 "FourHands$Piece" "keys" "[I" ∈ tb := mem_tb 130 rfl rfl
set_option maxRecDepth 20000 in
theorem kw_131 : Cond.fieldLink "FourHands$Fingering" 54 "FourHands$Piece" "keys" "[I" ∈ tb := mem_tb 131 rfl rfl
set_option maxRecDepth 20000 in
theorem kw_132 : Cond.fieldLink "FourHands" 134 "FourHands$Piece" "keys" "[I" ∈ tb := mem_tb 132 rfl rfl
set_option maxRecDepth 20000 in
theorem kw_133 : Cond.fieldLink "FourHands$Piece" 19 "FourHands$Piece" "moments" "[I" ∈ tb := mem_tb 133 rfl rfl
set_option maxRecDepth 20000 in
theorem kw_134 : Cond.fieldLink "FourHands$Pedalling" 38 "FourHands$Piece" "moments" "[I" ∈ tb := mem_tb 134 rfl rfl
set_option maxRecDepth 20000 in
theorem kw_135 : Cond.fieldLink "FourHands$Practising" 56 "FourHands$Piece" "moments" "[I" ∈ tb := mem_tb 135 rfl rfl
set_option maxRecDepth 20000 in
theorem kw_136 : Cond.fieldLink "FourHands$Fingering" 51 "FourHands$Piece" "moments" "[I" ∈ tb := mem_tb 136 rfl rfl
set_option maxRecDepth 20000 in
theorem kw_137 : Cond.fieldLink "FourHands" 137 "FourHands$Piece" "moments" "[I" ∈ tb := mem_tb 137 rfl rfl
set_option maxRecDepth 20000 in
theorem kw_138 : Cond.fieldLink "FourHands$Piece" 22 "FourHands$Piece" "lengths" "[I" ∈ tb := mem_tb 138 rfl rfl
set_option maxRecDepth 20000 in
theorem kw_139 : Cond.fieldLink "FourHands$Pedalling" 44 "FourHands$Piece" "lengths" "[I" ∈ tb := mem_tb 139 rfl rfl
set_option maxRecDepth 20000 in
theorem kw_140 : Cond.fieldLink "FourHands" 140 "FourHands$Piece" "lengths" "[I" ∈ tb := mem_tb 140 rfl rfl
set_option maxRecDepth 20000 in
theorem kw_141 : Cond.fieldLink "FourHands$Piece" 25 "FourHands$Piece" "parts" "[I" ∈ tb := mem_tb 141 rfl rfl
set_option maxRecDepth 20000 in
theorem kw_142 : Cond.fieldLink "FourHands" 143 "FourHands$Piece" "parts" "[I" ∈ tb := mem_tb 142 rfl rfl
set_option maxRecDepth 20000 in
theorem kw_143 : Cond.fieldLink "FourHands$Piece" 28 "FourHands$Piece" "louds" "[I" ∈ tb := mem_tb 143 rfl rfl
set_option maxRecDepth 20000 in
theorem kw_144 : Cond.fieldLink "FourHands" 146 "FourHands$Piece" "louds" "[I" ∈ tb := mem_tb 144 rfl rfl
set_option maxRecDepth 20000 in
theorem kw_145 : Cond.fieldLink "FourHands$Piece" 31 "FourHands$Piece" "hands" "[I" ∈ tb := mem_tb 145 rfl rfl
set_option maxRecDepth 20000 in
theorem kw_146 : Cond.fieldLink "FourHands$Fingering" 44 "FourHands$Piece" "hands" "[I" ∈ tb := mem_tb 146 rfl rfl
set_option maxRecDepth 20000 in
theorem kw_147 : Cond.fieldLink "FourHands$Handing" 53 "FourHands$Piece" "hands" "[I" ∈ tb := mem_tb 147 rfl rfl
set_option maxRecDepth 20000 in
theorem kw_148 : Cond.fieldLink "FourHands" 149 "FourHands$Piece" "hands" "[I" ∈ tb := mem_tb 148 rfl rfl
set_option maxRecDepth 20000 in
theorem kw_149 : Cond.fieldLink "FourHands$Piece" 34 "FourHands$Piece" "lates" "[I" ∈ tb := mem_tb 149 rfl rfl
set_option maxRecDepth 20000 in
theorem kw_150 : Cond.fieldLink "FourHands" 246 "FourHands$Piece" "lates" "[I" ∈ tb := mem_tb 150 rfl rfl
set_option maxRecDepth 20000 in
theorem kw_151 : Cond.fieldLink "FourHands$Piece" 37 "FourHands$Piece" "kinds" "[I" ∈ tb := mem_tb 151 rfl rfl
set_option maxRecDepth 20000 in
theorem kw_152 : Cond.fieldLink "FourHands" 81 "FourHands$Piece" "kinds" "[I" ∈ tb := mem_tb 152 rfl rfl
set_option maxRecDepth 20000 in
theorem kw_153 : Cond.fieldLink "FourHands$Piece" 40 "FourHands$Piece" "reach" "[I" ∈ tb := mem_tb 153 rfl rfl
set_option maxRecDepth 20000 in
theorem kw_154 : Cond.fieldLink "FourHands$Piece" 43 "FourHands$Piece" "speed" "[I" ∈ tb := mem_tb 154 rfl rfl
set_option maxRecDepth 20000 in
theorem kw_155 : Cond.fieldLink "FourHands$Piece" 64 "FourHands$Piece" "pedalFrom" "I" ∈ tb := mem_tb 155 rfl rfl
set_option maxRecDepth 20000 in
theorem kw_156 : Cond.fieldLink "FourHands" 200 "FourHands$Piece" "pedalFrom" "I" ∈ tb := mem_tb 156 rfl rfl
set_option maxRecDepth 20000 in
theorem kw_157 : Cond.fieldLink "FourHands$Piece" 67 "FourHands$Piece" "pedalTo" "I" ∈ tb := mem_tb 157 rfl rfl
set_option maxRecDepth 20000 in
theorem kw_158 : Cond.fieldLink "FourHands" 203 "FourHands$Piece" "pedalTo" "I" ∈ tb := mem_tb 158 rfl rfl
set_option maxRecDepth 20000 in
theorem kw_159 : Cond.fieldLink "FourHands$Piece" 70 "FourHands$Piece" "undos" "I" ∈ tb := mem_tb 159 rfl rfl
set_option maxRecDepth 20000 in
theorem kw_160 : Cond.fieldLink "FourHands" 125 "FourHands$Piece" "undos" "I" ∈ tb := mem_tb 160 rfl rfl
set_option maxRecDepth 20000 in
theorem kw_161 : Cond.fieldLink "FourHands$Piece" 46 "FourHands$Piece" "undoNotes" "[I" ∈ tb := mem_tb 161 rfl rfl
set_option maxRecDepth 20000 in
theorem kw_162 : Cond.fieldLink "FourHands$Piece" 49 "FourHands$Piece" "undoHands" "[I" ∈ tb := mem_tb 162 rfl rfl
set_option maxRecDepth 20000 in
theorem kw_163 : Cond.fieldLink "FourHands$Piece" 52 "FourHands$Piece" "partners" "[I" ∈ tb := mem_tb 163 rfl rfl
set_option maxRecDepth 20000 in
theorem kw_203 : Cond.classLink "FourHands" 23 "FourHands$Script" ∈ tb := mem_tb 203 rfl rfl
set_option maxRecDepth 20000 in
theorem kw_204 : Cond.instantiable "FourHands$Script" 7 ∈ tb := mem_tb 204 rfl rfl
set_option maxRecDepth 20000 in
theorem kw_209 : Cond.fieldLink "FourHands$Script" 9 "FourHands$Script" "bytes" "[I" ∈ tb := mem_tb 209 rfl rfl
set_option maxRecDepth 20000 in
theorem kw_210 : Cond.fieldLink "FourHands$Script" 18 "FourHands$Script" "length" "I" ∈ tb := mem_tb 210 rfl rfl
set_option maxRecDepth 20000 in
theorem kw_211 : Cond.fieldLink "FourHands" 100 "FourHands$Script" "length" "I" ∈ tb := mem_tb 211 rfl rfl
set_option maxRecDepth 20000 in
theorem kw_212 : Cond.fieldLink "FourHands$Script" 22 "FourHands$Script" "next" "I" ∈ tb := mem_tb 212 rfl rfl
set_option maxRecDepth 20000 in
theorem kw_213 : Cond.fieldLink "FourHands$Script" 35 "FourHands$Script" "place" "I" ∈ tb := mem_tb 213 rfl rfl
set_option maxRecDepth 20000 in
theorem kw_214 : Cond.fieldLink "FourHands$Script" 28 "FourHands$Script" "sort" "I" ∈ tb := mem_tb 214 rfl rfl
set_option maxRecDepth 20000 in
theorem kw_215 : Cond.fieldLink "FourHands$Script" 15 "FourHands$Script" "numbers" "[I" ∈ tb := mem_tb 215 rfl rfl
set_option maxRecDepth 20000 in
theorem kw_216 : Cond.fieldLink "FourHands$Script" 44 "FourHands$Script" "told" "I" ∈ tb := mem_tb 216 rfl rfl
set_option maxRecDepth 20000 in
theorem kw_232 : Cond.classLink "FourHands" 30 "FourHands$Handing" ∈ tb := mem_tb 232 rfl rfl
set_option maxRecDepth 20000 in
theorem kw_233 : Cond.instantiable "FourHands$Handing" 5 ∈ tb := mem_tb 233 rfl rfl
set_option maxRecDepth 20000 in
theorem kw_238 : Cond.fieldLink "FourHands$Handing" 28 "FourHands$Handing" "fewest" "I" ∈ tb := mem_tb 238 rfl rfl
set_option maxRecDepth 20000 in
theorem kw_239 : Cond.fieldLink "FourHands" 172 "FourHands$Handing" "fewest" "I" ∈ tb := mem_tb 239 rfl rfl
set_option maxRecDepth 20000 in
theorem kw_240 : Cond.fieldLink "FourHands$Handing" 31 "FourHands$Handing" "changes" "I" ∈ tb := mem_tb 240 rfl rfl
set_option maxRecDepth 20000 in
theorem kw_241 : Cond.fieldLink "FourHands" 175 "FourHands$Handing" "changes" "I" ∈ tb := mem_tb 241 rfl rfl
set_option maxRecDepth 20000 in
theorem kw_242 : Cond.fieldLink "FourHands$Handing" 9 "FourHands$Handing" "row" "[I" ∈ tb := mem_tb 242 rfl rfl
set_option maxRecDepth 20000 in
theorem kw_243 : Cond.fieldLink "FourHands" 178 "FourHands$Handing" "row" "[I" ∈ tb := mem_tb 243 rfl rfl
set_option maxRecDepth 20000 in
theorem kw_244 : Cond.fieldLink "FourHands$Handing" 24 "FourHands$Handing" "all" "I" ∈ tb := mem_tb 244 rfl rfl
set_option maxRecDepth 20000 in
theorem kw_245 : Cond.fieldLink "FourHands$Handing" 15 "FourHands$Handing" "with" "[I" ∈ tb := mem_tb 245 rfl rfl
set_option maxRecDepth 20000 in
theorem kw_257 : Cond.classLink "FourHands" 37 "FourHands$Fingering" ∈ tb := mem_tb 257 rfl rfl
set_option maxRecDepth 20000 in
theorem kw_258 : Cond.instantiable "FourHands$Fingering" 5 ∈ tb := mem_tb 258 rfl rfl
set_option maxRecDepth 20000 in
theorem kw_263 : Cond.fieldLink "FourHands$Fingering" 29 "FourHands$Fingering" "many" "I" ∈ tb := mem_tb 263 rfl rfl
set_option maxRecDepth 20000 in
theorem kw_264 : Cond.fieldLink "FourHands" 196 "FourHands$Fingering" "many" "I" ∈ tb := mem_tb 264 rfl rfl
set_option maxRecDepth 20000 in
theorem kw_265 : Cond.fieldLink "FourHands$Fingering" 25 "FourHands$Fingering" "cost" "I" ∈ tb := mem_tb 265 rfl rfl
set_option maxRecDepth 20000 in
theorem kw_266 : Cond.fieldLink "FourHands" 193 "FourHands$Fingering" "cost" "I" ∈ tb := mem_tb 266 rfl rfl
set_option maxRecDepth 20000 in
theorem kw_267 : Cond.fieldLink "FourHands$Fingering" 9 "FourHands$Fingering" "row" "[I" ∈ tb := mem_tb 267 rfl rfl
set_option maxRecDepth 20000 in
theorem kw_268 : Cond.fieldLink "FourHands" 199 "FourHands$Fingering" "row" "[I" ∈ tb := mem_tb 268 rfl rfl
set_option maxRecDepth 20000 in
theorem kw_269 : Cond.fieldLink "FourHands$Fingering" 15 "FourHands$Fingering" "order" "[I" ∈ tb := mem_tb 269 rfl rfl
set_option maxRecDepth 20000 in
theorem kw_270 : Cond.fieldLink "FourHands$Fingering" 18 "FourHands$Fingering" "least" "[I" ∈ tb := mem_tb 270 rfl rfl
set_option maxRecDepth 20000 in
theorem kw_282 : Cond.classLink "FourHands" 44 "FourHands$Pedalling" ∈ tb := mem_tb 282 rfl rfl
set_option maxRecDepth 20000 in
theorem kw_283 : Cond.instantiable "FourHands$Pedalling" 8 ∈ tb := mem_tb 283 rfl rfl
set_option maxRecDepth 20000 in
theorem kw_288 : Cond.fieldLink "FourHands$Pedalling" 70 "FourHands$Pedalling" "most" "I" ∈ tb := mem_tb 288 rfl rfl
set_option maxRecDepth 20000 in
theorem kw_289 : Cond.fieldLink "FourHands" 218 "FourHands$Pedalling" "most" "I" ∈ tb := mem_tb 289 rfl rfl
set_option maxRecDepth 20000 in
theorem kw_290 : Cond.fieldLink "FourHands$Pedalling" 73 "FourHands$Pedalling" "bestFrom" "I" ∈ tb := mem_tb 290 rfl rfl
set_option maxRecDepth 20000 in
theorem kw_291 : Cond.fieldLink "FourHands" 221 "FourHands$Pedalling" "bestFrom" "I" ∈ tb := mem_tb 291 rfl rfl
set_option maxRecDepth 20000 in
theorem kw_292 : Cond.fieldLink "FourHands$Pedalling" 76 "FourHands$Pedalling" "bestTo" "I" ∈ tb := mem_tb 292 rfl rfl
set_option maxRecDepth 20000 in
theorem kw_293 : Cond.fieldLink "FourHands" 224 "FourHands$Pedalling" "bestTo" "I" ∈ tb := mem_tb 293 rfl rfl
set_option maxRecDepth 20000 in
theorem kw_294 : Cond.fieldLink "FourHands$Pedalling" 9 "FourHands$Pedalling" "ends" "[I" ∈ tb := mem_tb 294 rfl rfl
set_option maxRecDepth 20000 in
theorem kw_295 : Cond.fieldLink "FourHands$Pedalling" 41 "FourHands$Pedalling" "endCount" "I" ∈ tb := mem_tb 295 rfl rfl
set_option maxRecDepth 20000 in
theorem kw_296 : Cond.fieldLink "FourHands$Pedalling" 15 "FourHands$Pedalling" "earlier" "[I" ∈ tb := mem_tb 296 rfl rfl
set_option maxRecDepth 20000 in
theorem kw_297 : Cond.fieldLink "FourHands$Pedalling" 18 "FourHands$Pedalling" "later" "[I" ∈ tb := mem_tb 297 rfl rfl
set_option maxRecDepth 20000 in
theorem kw_298 : Cond.fieldLink "FourHands$Pedalling" 47 "FourHands$Pedalling" "pairCount" "I" ∈ tb := mem_tb 298 rfl rfl
set_option maxRecDepth 20000 in
theorem kw_316 : Cond.classLink "FourHands" 51 "FourHands$Practising" ∈ tb := mem_tb 316 rfl rfl
set_option maxRecDepth 20000 in
theorem kw_317 : Cond.instantiable "FourHands$Practising" 4 ∈ tb := mem_tb 317 rfl rfl
set_option maxRecDepth 20000 in
theorem kw_322 : Cond.fieldLink "FourHands$Practising" 33 "FourHands$Practising" "slips" "I" ∈ tb := mem_tb 322 rfl rfl
set_option maxRecDepth 20000 in
theorem kw_323 : Cond.fieldLink "FourHands" 234 "FourHands$Practising" "slips" "I" ∈ tb := mem_tb 323 rfl rfl
set_option maxRecDepth 20000 in
theorem kw_324 : Cond.fieldLink "FourHands$Practising" 9 "FourHands$Practising" "row" "[I" ∈ tb := mem_tb 324 rfl rfl
set_option maxRecDepth 20000 in
theorem kw_325 : Cond.fieldLink "FourHands" 237 "FourHands$Practising" "row" "[I" ∈ tb := mem_tb 325 rfl rfl
set_option maxRecDepth 20000 in
theorem kw_326 : Cond.fieldLink "FourHands$Practising" 15 "FourHands$Practising" "left" "[I" ∈ tb := mem_tb 326 rfl rfl
set_option maxRecDepth 20000 in
theorem kw_327 : Cond.fieldLink "FourHands$Practising" 18 "FourHands$Practising" "least" "[I" ∈ tb := mem_tb 327 rfl rfl
set_option maxRecDepth 20000 in
theorem kw_337 : Cond.fieldLink "FourHands" 10 "FourHands" "now" "LFourHands$Piece;" ∈ tb := mem_tb 337 rfl rfl
set_option maxRecDepth 20000 in
theorem kw_338 : Cond.fieldLink "FourHands" 16 "FourHands" "spare" "LFourHands$Piece;" ∈ tb := mem_tb 338 rfl rfl
set_option maxRecDepth 20000 in
theorem kw_339 : Cond.fieldLink "FourHands" 19 "FourHands" "images" "[LFourHands$Piece;" ∈ tb := mem_tb 339 rfl rfl
set_option maxRecDepth 20000 in
theorem kw_340 : Cond.fieldLink "FourHands" 26 "FourHands" "script" "LFourHands$Script;" ∈ tb := mem_tb 340 rfl rfl
set_option maxRecDepth 20000 in
theorem kw_341 : Cond.fieldLink "FourHands" 33 "FourHands" "handing" "LFourHands$Handing;" ∈ tb := mem_tb 341 rfl rfl
set_option maxRecDepth 20000 in
theorem kw_342 : Cond.fieldLink "FourHands" 40 "FourHands" "fingering" "LFourHands$Fingering;" ∈ tb := mem_tb 342 rfl rfl
set_option maxRecDepth 20000 in
theorem kw_343 : Cond.fieldLink "FourHands" 47 "FourHands" "pedalling" "LFourHands$Pedalling;" ∈ tb := mem_tb 343 rfl rfl
set_option maxRecDepth 20000 in
theorem kw_344 : Cond.fieldLink "FourHands" 54 "FourHands" "practising" "LFourHands$Practising;" ∈ tb := mem_tb 344 rfl rfl
set_option maxRecDepth 20000 in
theorem kw_345 : Cond.fieldLink "FourHands" 269 "FourHands" "kept" "I" ∈ tb := mem_tb 345 rfl rfl
set_option maxRecDepth 20000 in
theorem kw_346 : Cond.fieldLink "FourHands" 266 "FourHands" "above" "J" ∈ tb := mem_tb 346 rfl rfl
set_option maxRecDepth 20000 in
theorem kw_347 : Cond.fieldLink "FourHands" 58 "FourHands" "below" "J" ∈ tb := mem_tb 347 rfl rfl
set_option maxRecDepth 20000 in
theorem kw_348 : Cond.fieldLink "FourHands" 272 "FourHands" "bads" "I" ∈ tb := mem_tb 348 rfl rfl
set_option maxRecDepth 20000 in
theorem kw_349 : Cond.fieldLink "FourHands" 275 "FourHands" "noes" "I" ∈ tb := mem_tb 349 rfl rfl
set_option maxRecDepth 20000 in
theorem kw_350 : Cond.fieldLink "FourHands" 278 "FourHands" "fulls" "I" ∈ tb := mem_tb 350 rfl rfl
set_option maxRecDepth 20000 in
theorem kw_470 : Cond.fieldLink "java/lang/String" 38 "java/lang/String" "COMPACT_STRINGS" "Z" ∈ tb := mem_tb 470 rfl rfl
set_option maxRecDepth 20000 in
theorem kw_486 : Cond.fieldLink "java/lang/String" 1053 "jdk/internal/util/Preconditions" "SIOOBE_FORMATTER" "Ljava/util/function/BiFunction;" ∈ tb := mem_tb 486 rfl rfl
set_option maxRecDepth 20000 in
theorem kw_504 : Cond.fieldLink "java/lang/StringUTF16" 44 "java/lang/StringUTF16" "$assertionsDisabled" "Z" ∈ tb := mem_tb 504 rfl rfl
set_option maxRecDepth 20000 in
theorem kw_506 : Cond.fieldLink "java/lang/StringUTF16" 59 "java/lang/StringUTF16" "HI_BYTE_SHIFT" "I" ∈ tb := mem_tb 506 rfl rfl
set_option maxRecDepth 20000 in
theorem kw_508 : Cond.fieldLink "java/lang/StringUTF16" 63 "java/lang/StringUTF16" "LO_BYTE_SHIFT" "I" ∈ tb := mem_tb 508 rfl rfl
set_option maxRecDepth 20000 in
theorem kw_688 : Cond.constant "java/lang/Integer" 265 1431655765 ∈ tb := mem_tb 688 rfl rfl
set_option maxRecDepth 20000 in
theorem kw_689 : Cond.constant "java/lang/Integer" 266 858993459 ∈ tb := mem_tb 689 rfl rfl
set_option maxRecDepth 20000 in
theorem kw_690 : Cond.constant "java/lang/Integer" 267 252645135 ∈ tb := mem_tb 690 rfl rfl
set_option maxRecDepth 20000 in
theorem kw_850 : Cond.constant "FourHands" 252 999999 ∈ tb := mem_tb 850 rfl rfl
set_option maxRecDepth 20000 in
theorem kw_851 : Cond.constantLong "FourHands" 253 1103515245 ∈ tb := mem_tb 851 rfl rfl
set_option maxRecDepth 20000 in
theorem kw_852 : Cond.constantLong "FourHands" 255 12345 ∈ tb := mem_tb 852 rfl rfl
set_option maxRecDepth 20000 in
theorem kw_853 : Cond.constantLong "FourHands" 257 2147483648 ∈ tb := mem_tb 853 rfl rfl
set_option maxRecDepth 20000 in
theorem kw_854 : Cond.constantLong "FourHands" 259 65536 ∈ tb := mem_tb 854 rfl rfl
set_option maxRecDepth 20000 in
theorem kw_855 : Cond.constantLong "FourHands" 261 100 ∈ tb := mem_tb 855 rfl rfl
set_option maxRecDepth 20000 in
theorem kw_888 : Cond.constantLong "FourHands" 284 877 ∈ tb := mem_tb 888 rfl rfl
set_option maxRecDepth 20000 in
theorem kw_889 : Cond.constantLong "FourHands" 286 31 ∈ tb := mem_tb 889 rfl rfl
set_option maxRecDepth 20000 in
theorem kw_894 : Cond.constantLong "FourHands$Piece" 122 31 ∈ tb := mem_tb 894 rfl rfl
set_option maxRecDepth 20000 in
theorem kw_895 : Cond.classLink "FourHandsLaw" 10 "FourHandsModel" ∈ tb := mem_tb 895 rfl rfl
set_option maxRecDepth 20000 in
theorem kw_896 : Cond.instantiable "FourHandsModel" 28 ∈ tb := mem_tb 896 rfl rfl
set_option maxRecDepth 20000 in
theorem kw_904 : Cond.fieldLink "FourHandsModel" 7 "FourHandsModel" "now" "[I" ∈ tb := mem_tb 904 rfl rfl
set_option maxRecDepth 20000 in
theorem kw_905 : Cond.fieldLink "FourHandsModel" 13 "FourHandsModel" "kept" "[I" ∈ tb := mem_tb 905 rfl rfl
set_option maxRecDepth 20000 in
theorem kw_906 : Cond.fieldLink "FourHandsModel" 16 "FourHandsModel" "isKept" "[Z" ∈ tb := mem_tb 906 rfl rfl
set_option maxRecDepth 20000 in
theorem kw_907 : Cond.fieldLink "FourHandsModel" 20 "FourHandsModel" "refused" "[I" ∈ tb := mem_tb 907 rfl rfl
set_option maxRecDepth 20000 in
theorem kw_908 : Cond.fieldLink "FourHandsModel" 244 "FourHandsModel" "above" "J" ∈ tb := mem_tb 908 rfl rfl
set_option maxRecDepth 20000 in
theorem kw_909 : Cond.fieldLink "FourHandsModel" 23 "FourHandsModel" "below" "J" ∈ tb := mem_tb 909 rfl rfl
set_option maxRecDepth 20000 in
theorem kw_910 : Cond.fieldLink "FourHandsModel" 163 "FourHandsModel" "fewest" "I" ∈ tb := mem_tb 910 rfl rfl
set_option maxRecDepth 20000 in
theorem kw_911 : Cond.fieldLink "FourHandsModel" 167 "FourHandsModel" "manyGiven" "I" ∈ tb := mem_tb 911 rfl rfl
set_option maxRecDepth 20000 in
theorem kw_912 : Cond.fieldLink "FourHandsModel" 170 "FourHandsModel" "firstGiven" "I" ∈ tb := mem_tb 912 rfl rfl
set_option maxRecDepth 20000 in
theorem kw_913 : Cond.fieldLink "FourHandsModel" 173 "FourHandsModel" "secondGiven" "I" ∈ tb := mem_tb 913 rfl rfl
set_option maxRecDepth 20000 in
theorem kw_914 : Cond.fieldLink "FourHandsModel" 27 "FourHandsModel" "clashWith" "[I" ∈ tb := mem_tb 914 rfl rfl
set_option maxRecDepth 20000 in
theorem kw_915 : Cond.fieldLink "FourHandsModel" 30 "FourHandsModel" "row" "[I" ∈ tb := mem_tb 915 rfl rfl
set_option maxRecDepth 20000 in
theorem kw_916 : Cond.fieldLink "FourHandsModel" 193 "FourHandsModel" "rowLong" "I" ∈ tb := mem_tb 916 rfl rfl
set_option maxRecDepth 20000 in
theorem kw_917 : Cond.fieldLink "FourHandsModel" 33 "FourHandsModel" "least" "[I" ∈ tb := mem_tb 917 rfl rfl
set_option maxRecDepth 20000 in
theorem kw_918 : Cond.fieldLink "FourHandsModel" 36 "FourHandsModel" "slips" "[I" ∈ tb := mem_tb 918 rfl rfl
set_option maxRecDepth 20000 in
theorem kw_919 : Cond.fieldLink "FourHandsModel" 39 "FourHandsModel" "left" "[I" ∈ tb := mem_tb 919 rfl rfl
set_option maxRecDepth 20000 in
theorem kw_920 : Cond.fieldLink "FourHandsModel" 42 "FourHandsModel" "bestRow" "[I" ∈ tb := mem_tb 920 rfl rfl
set_option maxRecDepth 20000 in
theorem kw_921 : Cond.fieldLink "FourHandsModel" 45 "FourHandsModel" "tryRow" "[I" ∈ tb := mem_tb 921 rfl rfl
set_option maxRecDepth 20000 in
theorem kw_922 : Cond.fieldLink "FourHandsModel" 235 "FourHandsModel" "leastSlips" "I" ∈ tb := mem_tb 922 rfl rfl
set_option maxRecDepth 20000 in
theorem kw_923 : Cond.fieldLink "FourHandsModel" 48 "FourHandsModel" "moments" "[I" ∈ tb := mem_tb 923 rfl rfl
set_option maxRecDepth 20000 in
theorem kw_924 : Cond.fieldLink "FourHandsModel" 51 "FourHandsModel" "bytes" "[I" ∈ tb := mem_tb 924 rfl rfl
set_option maxRecDepth 20000 in
theorem kw_925 : Cond.fieldLink "FourHandsModel" 271 "FourHandsModel" "bytesLong" "I" ∈ tb := mem_tb 925 rfl rfl
set_option maxRecDepth 20000 in
theorem kw_926 : Cond.fieldLink "FourHandsModel" 282 "FourHandsModel" "tokenAt" "I" ∈ tb := mem_tb 926 rfl rfl
set_option maxRecDepth 20000 in
theorem kw_927 : Cond.fieldLink "FourHandsModel" 285 "FourHandsModel" "tokenLong" "I" ∈ tb := mem_tb 927 rfl rfl
set_option maxRecDepth 20000 in
theorem kw_928 : Cond.fieldLink "FourHandsModel" 288 "FourHandsModel" "token" "I" ∈ tb := mem_tb 928 rfl rfl
set_option maxRecDepth 20000 in
theorem kw_929 : Cond.fieldLink "FourHandsModel" 291 "FourHandsModel" "value" "I" ∈ tb := mem_tb 929 rfl rfl
set_option maxRecDepth 20000 in
theorem kw_930 : Cond.fieldLink "FourHandsModel" 54 "FourHandsModel" "next" "[I" ∈ tb := mem_tb 930 rfl rfl
set_option maxRecDepth 20000 in
theorem kw_931 : Cond.fieldLink "FourHandsModel" 57 "FourHandsModel" "values" "[I" ∈ tb := mem_tb 931 rfl rfl
set_option maxRecDepth 20000 in
theorem kw_994 : Cond.constantLong "FourHandsModel" 74 9 ∈ tb := mem_tb 994 rfl rfl
set_option maxRecDepth 20000 in
theorem kw_1013 : Cond.constantLong "FourHandsModel" 72 3 ∈ tb := mem_tb 1013 rfl rfl
set_option maxRecDepth 20000 in
theorem kw_1014 : Cond.constantLong "FourHandsModel" 84 5 ∈ tb := mem_tb 1014 rfl rfl
set_option maxRecDepth 20000 in
theorem kw_1015 : Cond.constantLong "FourHandsModel" 86 15 ∈ tb := mem_tb 1015 rfl rfl
set_option maxRecDepth 20000 in
theorem kw_1023 : Cond.constantLong "FourHandsModel" 92 47 ∈ tb := mem_tb 1023 rfl rfl
set_option maxRecDepth 20000 in
theorem kw_1024 : Cond.constantLong "FourHandsModel" 94 63 ∈ tb := mem_tb 1024 rfl rfl
set_option maxRecDepth 20000 in
theorem kw_1025 : Cond.constantLong "FourHandsModel" 96 8 ∈ tb := mem_tb 1025 rfl rfl
set_option maxRecDepth 20000 in
theorem kw_1026 : Cond.constantLong "FourHandsModel" 98 (-1) ∈ tb := mem_tb 1026 rfl rfl
set_option maxRecDepth 20000 in
theorem kw_1113 : Cond.constantLong "FourHandsModel" 158 4 ∈ tb := mem_tb 1113 rfl rfl
set_option maxRecDepth 20000 in
theorem kw_1130 : Cond.constantLong "FourHandsModel" 183 2 ∈ tb := mem_tb 1130 rfl rfl
set_option maxRecDepth 20000 in
theorem kw_1131 : Cond.constant "FourHandsModel" 185 1000000 ∈ tb := mem_tb 1131 rfl rfl
set_option maxRecDepth 20000 in
theorem kw_1175 : Cond.constantLong "FourHandsModel" 210 64 ∈ tb := mem_tb 1175 rfl rfl
set_option maxRecDepth 20000 in
theorem kw_1224 : Cond.constantLong "FourHandsModel" 230 6 ∈ tb := mem_tb 1224 rfl rfl
set_option maxRecDepth 20000 in
theorem kw_1241 : Cond.constantLong "FourHandsModel" 247 20 ∈ tb := mem_tb 1241 rfl rfl
set_option maxRecDepth 20000 in
theorem kw_1262 : Cond.constantLong "FourHandsModel" 257 999999 ∈ tb := mem_tb 1262 rfl rfl
set_option maxRecDepth 20000 in
theorem kw_1263 : Cond.constantLong "FourHandsModel" 259 100 ∈ tb := mem_tb 1263 rfl rfl
set_option maxRecDepth 20000 in
theorem kw_1264 : Cond.constantLong "FourHandsModel" 261 1103515245 ∈ tb := mem_tb 1264 rfl rfl
set_option maxRecDepth 20000 in
theorem kw_1265 : Cond.constantLong "FourHandsModel" 263 12345 ∈ tb := mem_tb 1265 rfl rfl
set_option maxRecDepth 20000 in
theorem kw_1266 : Cond.constantLong "FourHandsModel" 265 2147483648 ∈ tb := mem_tb 1266 rfl rfl
set_option maxRecDepth 20000 in
theorem kw_1267 : Cond.constantLong "FourHandsModel" 267 65536 ∈ tb := mem_tb 1267 rfl rfl
set_option maxRecDepth 20000 in
theorem kw_1272 : Cond.constantLong "FourHandsModel" 269 127 ∈ tb := mem_tb 1272 rfl rfl
set_option maxRecDepth 20000 in
theorem kw_1288 : Cond.constantLong "FourHandsModel" 274 97 ∈ tb := mem_tb 1288 rfl rfl
set_option maxRecDepth 20000 in
theorem kw_1289 : Cond.constantLong "FourHandsModel" 276 122 ∈ tb := mem_tb 1289 rfl rfl
set_option maxRecDepth 20000 in
theorem kw_1293 : Cond.constantLong "FourHandsModel" 278 48 ∈ tb := mem_tb 1293 rfl rfl
set_option maxRecDepth 20000 in
theorem kw_1294 : Cond.constantLong "FourHandsModel" 280 57 ∈ tb := mem_tb 1294 rfl rfl
set_option maxRecDepth 20000 in
theorem kw_1355 : Cond.constantLong "FourHandsModel" 334 877 ∈ tb := mem_tb 1355 rfl rfl
set_option maxRecDepth 20000 in
theorem kw_1356 : Cond.constantLong "FourHandsModel" 332 31 ∈ tb := mem_tb 1356 rfl rfl
set_option maxRecDepth 20000 in
theorem kw_1361 : Cond.fieldLink "java/lang/String" 9 "java/lang/String" "value" "[B" ∈ tb := mem_tb 1361 rfl rfl
set_option maxRecDepth 20000 in
theorem kw_1362 : Cond.fieldLink "java/lang/String" 15 "java/lang/String" "coder" "B" ∈ tb := mem_tb 1362 rfl rfl
set_option maxRecDepth 20000 in
theorem inX0 : ∀ w ∈ u_ws RX0 TX0 5, w ∈ tb := by decide +kernel
set_option maxRecDepth 20000 in
theorem inX1 : ∀ w ∈ u_ws RX1 TX1 5, w ∈ tb := by decide +kernel
set_option maxRecDepth 20000 in
theorem inX2 : ∀ w ∈ u_ws RX2 TX2 8, w ∈ tb := by decide +kernel
set_option maxRecDepth 20000 in
theorem inX3 : ∀ w ∈ u_ws RX3 TX3 18, w ∈ tb := by decide +kernel
set_option maxRecDepth 20000 in
theorem inX4 : ∀ w ∈ u_ws RX4 TX4 4, w ∈ tb := by decide +kernel
set_option maxRecDepth 20000 in
theorem inX5 : ∀ w ∈ u_ws RX5 TX5 7, w ∈ tb := by decide +kernel
set_option maxRecDepth 20000 in
theorem inX6 : ∀ w ∈ u_ws RX6 TX6 14, w ∈ tb := by decide +kernel
set_option maxRecDepth 20000 in
theorem inX7 : ∀ w ∈ u_ws RX7 TX7 28, w ∈ tb := by decide +kernel
set_option maxRecDepth 20000 in
theorem lk_L_9 : LkI RL 9 yX6_init cX6_init 1 0 := ⟨⟨mem_tb 107 rfl rfl, mem_tb 105 rfl rfl, mem_tb 87 rfl rfl, by decide +kernel⟩, rfl, mem_tb 106 rfl rfl⟩
set_option maxRecDepth 20000 in
theorem lk_X6_9 : LkI RX6 9 yX3_init cX3_init 1 0 := ⟨⟨mem_tb 115 rfl rfl, mem_tb 113 rfl rfl, mem_tb 88 rfl rfl, by decide +kernel⟩, rfl, mem_tb 114 rfl rfl⟩
set_option maxRecDepth 20000 in
theorem lk_X3_55 : LkS RX3 55 yJ7_fill_53178 cJ7_fill_53178 4 none 2 := ⟨⟨mem_tb 119 rfl rfl, mem_tb 117 rfl rfl, mem_tb 89 rfl rfl, by decide +kernel⟩, mem_tb 118 rfl rfl⟩
set_option maxRecDepth 20000 in
theorem lk_L_13 : LkV RL 13 yX6_piece cX6_piece 3 (some .int) 1 := ⟨⟨mem_tb 383 rfl rfl, mem_tb 380 rfl rfl, mem_tb 87 rfl rfl, by decide +kernel⟩, mem_tb 381 rfl rfl, mem_tb 382 rfl rfl⟩
set_option maxRecDepth 20000 in
theorem lk_X6_62 : LkS RX6 62 yX6_within cX6_within 3 (some .boolean) 3 := ⟨⟨mem_tb 386 rfl rfl, mem_tb 384 rfl rfl, mem_tb 87 rfl rfl, by decide +kernel⟩, mem_tb 385 rfl rfl⟩
set_option maxRecDepth 20000 in
theorem lk_X6_66 : LkV RX6 66 yX6_refuseBad cX6_refuseBad 2 (some .int) 1 := ⟨⟨mem_tb 390 rfl rfl, mem_tb 387 rfl rfl, mem_tb 87 rfl rfl, by decide +kernel⟩, mem_tb 389 rfl rfl, mem_tb 0 rfl rfl⟩
set_option maxRecDepth 20000 in
theorem lk_X6_74 : LkV RX6 74 yX3_begin cX3_begin 2 none 1 := ⟨⟨mem_tb 394 rfl rfl, mem_tb 391 rfl rfl, mem_tb 88 rfl rfl, by decide +kernel⟩, mem_tb 392 rfl rfl, mem_tb 393 rfl rfl⟩
set_option maxRecDepth 20000 in
theorem lk_X6_78 : LkV RX6 78 yX6_forgetTheRest cX6_forgetTheRest 1 none 0 := ⟨⟨mem_tb 398 rfl rfl, mem_tb 395 rfl rfl, mem_tb 87 rfl rfl, by decide +kernel⟩, mem_tb 397 rfl rfl, mem_tb 1 rfl rfl⟩
set_option maxRecDepth 20000 in
theorem lk_L_18 : LkV RL 18 yX6_hand cX6_hand 6 (some .int) 4 := ⟨⟨mem_tb 402 rfl rfl, mem_tb 399 rfl rfl, mem_tb 87 rfl rfl, by decide +kernel⟩, mem_tb 400 rfl rfl, mem_tb 401 rfl rfl⟩
set_option maxRecDepth 20000 in
theorem lk_X6_85 : LkV RX6 85 yX3_setHand cX3_setHand 5 none 4 := ⟨⟨mem_tb 406 rfl rfl, mem_tb 403 rfl rfl, mem_tb 88 rfl rfl, by decide +kernel⟩, mem_tb 404 rfl rfl, mem_tb 405 rfl rfl⟩
set_option maxRecDepth 20000 in
theorem lk_L_23 : LkV RL 23 yX6_note cX6_note 7 (some .int) 6 := ⟨⟨mem_tb 410 rfl rfl, mem_tb 407 rfl rfl, mem_tb 87 rfl rfl, by decide +kernel⟩, mem_tb 408 rfl rfl, mem_tb 409 rfl rfl⟩
set_option maxRecDepth 20000 in
theorem lk_X6_89 : LkS RX6 89 yX6_longestFrom cX6_longestFrom 1 (some .int) 1 := ⟨⟨mem_tb 413 rfl rfl, mem_tb 411 rfl rfl, mem_tb 87 rfl rfl, by decide +kernel⟩, mem_tb 412 rfl rfl⟩
set_option maxRecDepth 20000 in
theorem lk_X6_263 : LkS RX6 263 yJ9_min_7cf53 cJ9_min_7cf53 2 (some .int) 2 := ⟨⟨mem_tb 416 rfl rfl, mem_tb 414 rfl rfl, mem_tb 96 rfl rfl, by decide +kernel⟩, mem_tb 415 rfl rfl⟩
set_option maxRecDepth 20000 in
theorem lk_X6_92 : LkV RX6 92 yX6_refuseFull cX6_refuseFull 1 (some .int) 0 := ⟨⟨mem_tb 420 rfl rfl, mem_tb 417 rfl rfl, mem_tb 87 rfl rfl, by decide +kernel⟩, mem_tb 419 rfl rfl, mem_tb 2 rfl rfl⟩
set_option maxRecDepth 20000 in
theorem lk_X6_96 : LkV RX6 96 yX3_addNote cX3_addNote 7 none 6 := ⟨⟨mem_tb 424 rfl rfl, mem_tb 421 rfl rfl, mem_tb 88 rfl rfl, by decide +kernel⟩, mem_tb 422 rfl rfl, mem_tb 423 rfl rfl⟩
set_option maxRecDepth 20000 in
theorem lk_L_28 : LkV RL 28 yX6_type cX6_type 2 (some .int) 1 := ⟨⟨mem_tb 428 rfl rfl, mem_tb 425 rfl rfl, mem_tb 87 rfl rfl, by decide +kernel⟩, mem_tb 426 rfl rfl, mem_tb 427 rfl rfl⟩
set_option maxRecDepth 20000 in
theorem lk_X6_103 : LkV RX6 103 yX5_append cX5_append 2 none 1 := ⟨⟨mem_tb 432 rfl rfl, mem_tb 429 rfl rfl, mem_tb 90 rfl rfl, by decide +kernel⟩, mem_tb 430 rfl rfl, mem_tb 431 rfl rfl⟩
set_option maxRecDepth 20000 in
theorem lk_L_32 : LkV RL 32 yX6_clear cX6_clear 2 (some .int) 0 := ⟨⟨mem_tb 436 rfl rfl, mem_tb 433 rfl rfl, mem_tb 87 rfl rfl, by decide +kernel⟩, mem_tb 434 rfl rfl, mem_tb 435 rfl rfl⟩
set_option maxRecDepth 20000 in
theorem lk_L_37 : LkV RL 37 yX6_read cX6_read 2 (some .int) 0 := ⟨⟨mem_tb 440 rfl rfl, mem_tb 437 rfl rfl, mem_tb 87 rfl rfl, by decide +kernel⟩, mem_tb 438 rfl rfl, mem_tb 439 rfl rfl⟩
set_option maxRecDepth 20000 in
theorem lk_X6_106 : LkV RX6 106 yX5_readInto cX5_readInto 3 (some .int) 1 := ⟨⟨mem_tb 444 rfl rfl, mem_tb 441 rfl rfl, mem_tb 90 rfl rfl, by decide +kernel⟩, mem_tb 442 rfl rfl, mem_tb 443 rfl rfl⟩
set_option maxRecDepth 20000 in
theorem lk_X5_25 : LkV RX5 25 yX5_takeToken cX5_takeToken 1 none 0 := ⟨⟨mem_tb 448 rfl rfl, mem_tb 445 rfl rfl, mem_tb 90 rfl rfl, by decide +kernel⟩, mem_tb 447 rfl rfl, mem_tb 3 rfl rfl⟩
set_option maxRecDepth 20000 in
theorem lk_X5_98 : LkV RX5 98 yX5_sortAt cX5_sortAt 3 (some .int) 1 := ⟨⟨mem_tb 452 rfl rfl, mem_tb 449 rfl rfl, mem_tb 90 rfl rfl, by decide +kernel⟩, mem_tb 451 rfl rfl, mem_tb 4 rfl rfl⟩
set_option maxRecDepth 20000 in
theorem lk_X5_31 : LkV RX5 31 yX5_readItem cX5_readItem 3 (some .boolean) 2 := ⟨⟨mem_tb 456 rfl rfl, mem_tb 453 rfl rfl, mem_tb 90 rfl rfl, by decide +kernel⟩, mem_tb 455 rfl rfl, mem_tb 5 rfl rfl⟩
set_option maxRecDepth 20000 in
theorem lk_X5_40 : LkV RX5 40 yX5_isWord cX5_isWord 3 (some .boolean) 1 := ⟨⟨mem_tb 461 rfl rfl, mem_tb 458 rfl rfl, mem_tb 90 rfl rfl, by decide +kernel⟩, mem_tb 460 rfl rfl, mem_tb 6 rfl rfl⟩
set_option maxRecDepth 20000 in
theorem lk_X5_101 : LkV RX5 101 yJ0_length_8abf5 cJ0_length_8abf5 1 (some .int) 0 := ⟨⟨mem_tb 465 rfl rfl, mem_tb 462 rfl rfl, mem_tb 97 rfl rfl, by decide +kernel⟩, mem_tb 463 rfl rfl, mem_tb 464 rfl rfl⟩
set_option maxRecDepth 20000 in
theorem lk_J0_335 : LkV RJ0 335 yJ0_coder_7d493 cJ0_coder_7d493 1 (some .byte) 0 := ⟨⟨mem_tb 469 rfl rfl, mem_tb 466 rfl rfl, mem_tb 97 rfl rfl, by decide +kernel⟩, mem_tb 467 rfl rfl, mem_tb 468 rfl rfl⟩
set_option maxRecDepth 20000 in
theorem lk_X5_105 : LkV RX5 105 yJ0_charAt_5068e cJ0_charAt_5068e 2 (some .char) 1 := ⟨⟨mem_tb 475 rfl rfl, mem_tb 472 rfl rfl, mem_tb 97 rfl rfl, by decide +kernel⟩, mem_tb 473 rfl rfl, mem_tb 474 rfl rfl⟩
set_option maxRecDepth 20000 in
theorem lk_J0_492 : LkV RJ0 492 yJ0_isLatin1_aae02 cJ0_isLatin1_aae02 1 (some .boolean) 0 := ⟨⟨mem_tb 479 rfl rfl, mem_tb 476 rfl rfl, mem_tb 97 rfl rfl, by decide +kernel⟩, mem_tb 477 rfl rfl, mem_tb 478 rfl rfl⟩
set_option maxRecDepth 20000 in
theorem lk_J0_495 : LkS RJ0 495 yJ1_charAt_3b067 cJ1_charAt_3b067 2 (some .char) 2 := ⟨⟨mem_tb 482 rfl rfl, mem_tb 480 rfl rfl, mem_tb 98 rfl rfl, by decide +kernel⟩, mem_tb 481 rfl rfl⟩
set_option maxRecDepth 20000 in
theorem lk_J1_9 : LkS RJ1 9 yJ0_checkIndex_df160 cJ0_checkIndex_df160 2 none 2 := ⟨⟨mem_tb 485 rfl rfl, mem_tb 483 rfl rfl, mem_tb 97 rfl rfl, by decide +kernel⟩, mem_tb 484 rfl rfl⟩
set_option maxRecDepth 20000 in
theorem lk_J0_1059 : LkS RJ0 1059 yJ3_checkIndex_8e157 cJ3_checkIndex_8e157 3 (some .int) 3 := ⟨⟨mem_tb 490 rfl rfl, mem_tb 488 rfl rfl, mem_tb 99 rfl rfl, by decide +kernel⟩, mem_tb 489 rfl rfl⟩
set_option maxRecDepth 20000 in
theorem lk_J0_498 : LkS RJ0 498 yJ2_charAt_3b067 cJ2_charAt_3b067 2 (some .char) 2 := ⟨⟨mem_tb 493 rfl rfl, mem_tb 491 rfl rfl, mem_tb 100 rfl rfl, by decide +kernel⟩, mem_tb 492 rfl rfl⟩
set_option maxRecDepth 20000 in
theorem lk_J2_67 : LkS RJ2 67 yJ2_checkIndex_2214a cJ2_checkIndex_2214a 2 none 2 := ⟨⟨mem_tb 496 rfl rfl, mem_tb 494 rfl rfl, mem_tb 100 rfl rfl, by decide +kernel⟩, mem_tb 495 rfl rfl⟩
set_option maxRecDepth 20000 in
theorem lk_J2_48 : LkS RJ2 48 yJ2_length_9d52b cJ2_length_9d52b 1 (some .int) 1 := ⟨⟨mem_tb 499 rfl rfl, mem_tb 497 rfl rfl, mem_tb 100 rfl rfl, by decide +kernel⟩, mem_tb 498 rfl rfl⟩
set_option maxRecDepth 20000 in
theorem lk_J2_414 : LkS RJ2 414 yJ0_checkIndex_df160 cJ0_checkIndex_df160 2 none 2 := ⟨⟨mem_tb 485 rfl rfl, mem_tb 500 rfl rfl, mem_tb 97 rfl rfl, by decide +kernel⟩, mem_tb 484 rfl rfl⟩
set_option maxRecDepth 20000 in
theorem lk_J2_71 : LkS RJ2 71 yJ2_getChar_3b067 cJ2_getChar_3b067 2 (some .char) 2 := ⟨⟨mem_tb 503 rfl rfl, mem_tb 501 rfl rfl, mem_tb 100 rfl rfl, by decide +kernel⟩, mem_tb 502 rfl rfl⟩
set_option maxRecDepth 20000 in
theorem lk_X5_47 : LkV RX5 47 yX5_readPiece cX5_readPiece 2 (some .boolean) 1 := ⟨⟨mem_tb 513 rfl rfl, mem_tb 510 rfl rfl, mem_tb 90 rfl rfl, by decide +kernel⟩, mem_tb 512 rfl rfl, mem_tb 7 rfl rfl⟩
set_option maxRecDepth 20000 in
theorem lk_X5_66 : LkV RX5 66 yX5_takeNumber cX5_takeNumber 4 (some .boolean) 2 := ⟨⟨mem_tb 517 rfl rfl, mem_tb 514 rfl rfl, mem_tb 90 rfl rfl, by decide +kernel⟩, mem_tb 516 rfl rfl, mem_tb 8 rfl rfl⟩
set_option maxRecDepth 20000 in
theorem lk_X5_90 : LkV RX5 90 yX5_numberValue cX5_numberValue 3 (some .int) 0 := ⟨⟨mem_tb 521 rfl rfl, mem_tb 518 rfl rfl, mem_tb 90 rfl rfl, by decide +kernel⟩, mem_tb 520 rfl rfl, mem_tb 9 rfl rfl⟩
set_option maxRecDepth 20000 in
theorem lk_X5_70 : LkV RX5 70 yX5_takeStop cX5_takeStop 1 (some .boolean) 0 := ⟨⟨mem_tb 526 rfl rfl, mem_tb 523 rfl rfl, mem_tb 90 rfl rfl, by decide +kernel⟩, mem_tb 525 rfl rfl, mem_tb 10 rfl rfl⟩
set_option maxRecDepth 20000 in
theorem lk_X5_74 : LkV RX5 74 yX3_begin cX3_begin 2 none 1 := ⟨⟨mem_tb 394 rfl rfl, mem_tb 527 rfl rfl, mem_tb 88 rfl rfl, by decide +kernel⟩, mem_tb 392 rfl rfl, mem_tb 393 rfl rfl⟩
set_option maxRecDepth 20000 in
theorem lk_X5_53 : LkV RX5 53 yX5_readHand cX5_readHand 2 (some .boolean) 1 := ⟨⟨mem_tb 532 rfl rfl, mem_tb 529 rfl rfl, mem_tb 90 rfl rfl, by decide +kernel⟩, mem_tb 531 rfl rfl, mem_tb 11 rfl rfl⟩
set_option maxRecDepth 20000 in
theorem lk_X5_78 : LkV RX5 78 yX3_setHand cX3_setHand 5 none 4 := ⟨⟨mem_tb 406 rfl rfl, mem_tb 533 rfl rfl, mem_tb 88 rfl rfl, by decide +kernel⟩, mem_tb 404 rfl rfl, mem_tb 405 rfl rfl⟩
set_option maxRecDepth 20000 in
theorem lk_X5_63 : LkV RX5 63 yX5_readNote cX5_readNote 3 (some .boolean) 1 := ⟨⟨mem_tb 538 rfl rfl, mem_tb 535 rfl rfl, mem_tb 90 rfl rfl, by decide +kernel⟩, mem_tb 537 rfl rfl, mem_tb 12 rfl rfl⟩
set_option maxRecDepth 20000 in
theorem lk_X5_86 : LkV RX5 86 yX3_addNote cX3_addNote 7 none 6 := ⟨⟨mem_tb 424 rfl rfl, mem_tb 540 rfl rfl, mem_tb 88 rfl rfl, by decide +kernel⟩, mem_tb 422 rfl rfl, mem_tb 423 rfl rfl⟩
set_option maxRecDepth 20000 in
theorem lk_X6_110 : LkV RX6 110 yX3_copyFrom cX3_copyFrom 2 none 1 := ⟨⟨mem_tb 544 rfl rfl, mem_tb 541 rfl rfl, mem_tb 88 rfl rfl, by decide +kernel⟩, mem_tb 542 rfl rfl, mem_tb 543 rfl rfl⟩
set_option maxRecDepth 20000 in
theorem lk_L_41 : LkV RL 41 yX6_give cX6_give 3 (some .int) 2 := ⟨⟨mem_tb 552 rfl rfl, mem_tb 549 rfl rfl, mem_tb 87 rfl rfl, by decide +kernel⟩, mem_tb 550 rfl rfl, mem_tb 551 rfl rfl⟩
set_option maxRecDepth 20000 in
theorem lk_X6_114 : LkV RX6 114 yX6_isNote cX6_isNote 2 (some .boolean) 1 := ⟨⟨mem_tb 556 rfl rfl, mem_tb 553 rfl rfl, mem_tb 87 rfl rfl, by decide +kernel⟩, mem_tb 555 rfl rfl, mem_tb 13 rfl rfl⟩
set_option maxRecDepth 20000 in
theorem lk_X6_118 : LkV RX6 118 yX3_pass cX3_pass 3 none 2 := ⟨⟨mem_tb 560 rfl rfl, mem_tb 557 rfl rfl, mem_tb 88 rfl rfl, by decide +kernel⟩, mem_tb 558 rfl rfl, mem_tb 559 rfl rfl⟩
set_option maxRecDepth 20000 in
theorem lk_X6_122 : LkV RX6 122 yX3_clashCount cX3_clashCount 4 (some .int) 0 := ⟨⟨mem_tb 564 rfl rfl, mem_tb 561 rfl rfl, mem_tb 88 rfl rfl, by decide +kernel⟩, mem_tb 562 rfl rfl, mem_tb 563 rfl rfl⟩
set_option maxRecDepth 20000 in
theorem lk_X3_112 : LkV RX3 112 yX3_sortOf cX3_sortOf 3 (some .int) 2 := ⟨⟨mem_tb 568 rfl rfl, mem_tb 565 rfl rfl, mem_tb 88 rfl rfl, by decide +kernel⟩, mem_tb 566 rfl rfl, mem_tb 567 rfl rfl⟩
set_option maxRecDepth 20000 in
theorem lk_X3_95 : LkV RX3 95 yX3_sortIf cX3_sortIf 9 (some .int) 4 := ⟨⟨mem_tb 572 rfl rfl, mem_tb 569 rfl rfl, mem_tb 88 rfl rfl, by decide +kernel⟩, mem_tb 570 rfl rfl, mem_tb 571 rfl rfl⟩
set_option maxRecDepth 20000 in
theorem lk_X3_99 : LkS RX3 99 yJ9_abs_0f7a4 cJ9_abs_0f7a4 1 (some .int) 1 := ⟨⟨mem_tb 575 rfl rfl, mem_tb 573 rfl rfl, mem_tb 96 rfl rfl, by decide +kernel⟩, mem_tb 574 rfl rfl⟩
set_option maxRecDepth 20000 in
theorem lk_X3_86 : LkS RX3 86 yJ9_max_7cf53 cJ9_max_7cf53 2 (some .int) 2 := ⟨⟨mem_tb 578 rfl rfl, mem_tb 576 rfl rfl, mem_tb 96 rfl rfl, by decide +kernel⟩, mem_tb 577 rfl rfl⟩
set_option maxRecDepth 20000 in
theorem lk_X3_103 : LkV RX3 103 yX3_moves cX3_moves 2 (some .int) 1 := ⟨⟨mem_tb 582 rfl rfl, mem_tb 579 rfl rfl, mem_tb 88 rfl rfl, by decide +kernel⟩, mem_tb 580 rfl rfl, mem_tb 581 rfl rfl⟩
set_option maxRecDepth 20000 in
theorem lk_X3_92 : LkV RX3 92 yX3_isQuick cX3_isQuick 2 (some .boolean) 1 := ⟨⟨mem_tb 586 rfl rfl, mem_tb 583 rfl rfl, mem_tb 88 rfl rfl, by decide +kernel⟩, mem_tb 585 rfl rfl, mem_tb 14 rfl rfl⟩
set_option maxRecDepth 20000 in
theorem lk_X3_83 : LkV RX3 83 yX3_isStiff cX3_isStiff 2 (some .boolean) 1 := ⟨⟨mem_tb 590 rfl rfl, mem_tb 587 rfl rfl, mem_tb 88 rfl rfl, by decide +kernel⟩, mem_tb 589 rfl rfl, mem_tb 15 rfl rfl⟩
set_option maxRecDepth 20000 in
theorem lk_X3_106 : LkV RX3 106 yX3_reaches cX3_reaches 2 (some .int) 1 := ⟨⟨mem_tb 594 rfl rfl, mem_tb 591 rfl rfl, mem_tb 88 rfl rfl, by decide +kernel⟩, mem_tb 592 rfl rfl, mem_tb 593 rfl rfl⟩
set_option maxRecDepth 20000 in
theorem lk_X3_109 : LkV RX3 109 yX3_keepsOff cX3_keepsOff 2 (some .int) 1 := ⟨⟨mem_tb 598 rfl rfl, mem_tb 595 rfl rfl, mem_tb 88 rfl rfl, by decide +kernel⟩, mem_tb 596 rfl rfl, mem_tb 597 rfl rfl⟩
set_option maxRecDepth 20000 in
theorem lk_L_46 : LkV RL 46 yX6_undo cX6_undo 1 (some .int) 0 := ⟨⟨mem_tb 602 rfl rfl, mem_tb 599 rfl rfl, mem_tb 87 rfl rfl, by decide +kernel⟩, mem_tb 600 rfl rfl, mem_tb 601 rfl rfl⟩
set_option maxRecDepth 20000 in
theorem lk_X6_128 : LkV RX6 128 yX6_refuseNo cX6_refuseNo 2 (some .int) 1 := ⟨⟨mem_tb 606 rfl rfl, mem_tb 603 rfl rfl, mem_tb 87 rfl rfl, by decide +kernel⟩, mem_tb 605 rfl rfl, mem_tb 16 rfl rfl⟩
set_option maxRecDepth 20000 in
theorem lk_X6_131 : LkV RX6 131 yX3_takeBack cX3_takeBack 1 none 0 := ⟨⟨mem_tb 610 rfl rfl, mem_tb 607 rfl rfl, mem_tb 88 rfl rfl, by decide +kernel⟩, mem_tb 608 rfl rfl, mem_tb 609 rfl rfl⟩
set_option maxRecDepth 20000 in
theorem lk_L_50 : LkV RL 50 yX6_of cX6_of 3 (some .int) 2 := ⟨⟨mem_tb 614 rfl rfl, mem_tb 611 rfl rfl, mem_tb 87 rfl rfl, by decide +kernel⟩, mem_tb 612 rfl rfl, mem_tb 613 rfl rfl⟩
set_option maxRecDepth 20000 in
theorem lk_L_54 : LkV RL 54 yX6_about cX6_about 3 (some .int) 2 := ⟨⟨mem_tb 618 rfl rfl, mem_tb 615 rfl rfl, mem_tb 87 rfl rfl, by decide +kernel⟩, mem_tb 616 rfl rfl, mem_tb 617 rfl rfl⟩
set_option maxRecDepth 20000 in
theorem lk_X6_152 : LkV RX6 152 yX3_reaches cX3_reaches 2 (some .int) 1 := ⟨⟨mem_tb 594 rfl rfl, mem_tb 619 rfl rfl, mem_tb 88 rfl rfl, by decide +kernel⟩, mem_tb 592 rfl rfl, mem_tb 593 rfl rfl⟩
set_option maxRecDepth 20000 in
theorem lk_X6_155 : LkV RX6 155 yX3_moves cX3_moves 2 (some .int) 1 := ⟨⟨mem_tb 582 rfl rfl, mem_tb 620 rfl rfl, mem_tb 88 rfl rfl, by decide +kernel⟩, mem_tb 580 rfl rfl, mem_tb 581 rfl rfl⟩
set_option maxRecDepth 20000 in
theorem lk_X6_158 : LkV RX6 158 yX3_keepsOff cX3_keepsOff 2 (some .int) 1 := ⟨⟨mem_tb 598 rfl rfl, mem_tb 621 rfl rfl, mem_tb 88 rfl rfl, by decide +kernel⟩, mem_tb 596 rfl rfl, mem_tb 597 rfl rfl⟩
set_option maxRecDepth 20000 in
theorem lk_X6_161 : LkV RX6 161 yX3_notesOf cX3_notesOf 4 (some .int) 1 := ⟨⟨mem_tb 625 rfl rfl, mem_tb 622 rfl rfl, mem_tb 88 rfl rfl, by decide +kernel⟩, mem_tb 623 rfl rfl, mem_tb 624 rfl rfl⟩
set_option maxRecDepth 20000 in
theorem lk_L_58 : LkV RL 58 yX6_clash cX6_clash 3 (some .int) 2 := ⟨⟨mem_tb 629 rfl rfl, mem_tb 626 rfl rfl, mem_tb 87 rfl rfl, by decide +kernel⟩, mem_tb 627 rfl rfl, mem_tb 628 rfl rfl⟩
set_option maxRecDepth 20000 in
theorem lk_X6_164 : LkV RX6 164 yX3_sortOf cX3_sortOf 3 (some .int) 2 := ⟨⟨mem_tb 568 rfl rfl, mem_tb 630 rfl rfl, mem_tb 88 rfl rfl, by decide +kernel⟩, mem_tb 566 rfl rfl, mem_tb 567 rfl rfl⟩
set_option maxRecDepth 20000 in
theorem lk_L_62 : LkV RL 62 yX6_clashes cX6_clashes 7 (some .int) 2 := ⟨⟨mem_tb 634 rfl rfl, mem_tb 631 rfl rfl, mem_tb 87 rfl rfl, by decide +kernel⟩, mem_tb 632 rfl rfl, mem_tb 633 rfl rfl⟩
set_option maxRecDepth 20000 in
theorem lk_L_66 : LkV RL 66 yX6_given cX6_given 3 (some .int) 2 := ⟨⟨mem_tb 638 rfl rfl, mem_tb 635 rfl rfl, mem_tb 87 rfl rfl, by decide +kernel⟩, mem_tb 636 rfl rfl, mem_tb 637 rfl rfl⟩
set_option maxRecDepth 20000 in
theorem lk_X6_168 : LkV RX6 168 yX1_solve cX1_solve 6 none 2 := ⟨⟨mem_tb 642 rfl rfl, mem_tb 639 rfl rfl, mem_tb 91 rfl rfl, by decide +kernel⟩, mem_tb 640 rfl rfl, mem_tb 641 rfl rfl⟩
set_option maxRecDepth 20000 in
theorem lk_X1_18 : LkV RX1 18 yX3_clashCount cX3_clashCount 4 (some .int) 0 := ⟨⟨mem_tb 564 rfl rfl, mem_tb 643 rfl rfl, mem_tb 88 rfl rfl, by decide +kernel⟩, mem_tb 562 rfl rfl, mem_tb 563 rfl rfl⟩
set_option maxRecDepth 20000 in
theorem lk_X1_34 : LkV RX1 34 yX1_countAll cX1_countAll 4 none 1 := ⟨⟨mem_tb 647 rfl rfl, mem_tb 644 rfl rfl, mem_tb 91 rfl rfl, by decide +kernel⟩, mem_tb 646 rfl rfl, mem_tb 17 rfl rfl⟩
set_option maxRecDepth 20000 in
theorem lk_X1_49 : LkV RX1 49 yX1_countWith cX1_countWith 6 (some .int) 3 := ⟨⟨mem_tb 651 rfl rfl, mem_tb 648 rfl rfl, mem_tb 91 rfl rfl, by decide +kernel⟩, mem_tb 650 rfl rfl, mem_tb 18 rfl rfl⟩
set_option maxRecDepth 20000 in
theorem lk_X1_56 : LkV RX1 56 yX3_sortIf cX3_sortIf 9 (some .int) 4 := ⟨⟨mem_tb 572 rfl rfl, mem_tb 652 rfl rfl, mem_tb 88 rfl rfl, by decide +kernel⟩, mem_tb 570 rfl rfl, mem_tb 571 rfl rfl⟩
set_option maxRecDepth 20000 in
theorem lk_X1_41 : LkV RX1 41 yX1_isChange cX1_isChange 4 (some .boolean) 3 := ⟨⟨mem_tb 656 rfl rfl, mem_tb 653 rfl rfl, mem_tb 91 rfl rfl, by decide +kernel⟩, mem_tb 655 rfl rfl, mem_tb 19 rfl rfl⟩
set_option maxRecDepth 20000 in
theorem lk_X1_60 : LkV RX1 60 yX3_isPlayed cX3_isPlayed 2 (some .boolean) 1 := ⟨⟨mem_tb 660 rfl rfl, mem_tb 657 rfl rfl, mem_tb 88 rfl rfl, by decide +kernel⟩, mem_tb 658 rfl rfl, mem_tb 659 rfl rfl⟩
set_option maxRecDepth 20000 in
theorem lk_X1_45 : LkV RX1 45 yX1_tryRows cX1_tryRows 9 none 4 := ⟨⟨mem_tb 664 rfl rfl, mem_tb 661 rfl rfl, mem_tb 91 rfl rfl, by decide +kernel⟩, mem_tb 663 rfl rfl, mem_tb 20 rfl rfl⟩
set_option maxRecDepth 20000 in
theorem lk_X1_64 : LkV RX1 64 yX1_moreBy cX1_moreBy 4 (some .int) 3 := ⟨⟨mem_tb 668 rfl rfl, mem_tb 665 rfl rfl, mem_tb 91 rfl rfl, by decide +kernel⟩, mem_tb 667 rfl rfl, mem_tb 21 rfl rfl⟩
set_option maxRecDepth 20000 in
theorem lk_X1_67 : LkV RX1 67 yX1_keepIfFewer cX1_keepIfFewer 5 none 4 := ⟨⟨mem_tb 672 rfl rfl, mem_tb 669 rfl rfl, mem_tb 91 rfl rfl, by decide +kernel⟩, mem_tb 671 rfl rfl, mem_tb 22 rfl rfl⟩
set_option maxRecDepth 20000 in
theorem lk_X1_71 : LkV RX1 71 yX1_pairMore cX1_pairMore 7 (some .int) 5 := ⟨⟨mem_tb 676 rfl rfl, mem_tb 673 rfl rfl, mem_tb 91 rfl rfl, by decide +kernel⟩, mem_tb 675 rfl rfl, mem_tb 23 rfl rfl⟩
set_option maxRecDepth 20000 in
theorem lk_L_70 : LkV RL 70 yX6_out cX6_out 5 (some .int) 0 := ⟨⟨mem_tb 680 rfl rfl, mem_tb 677 rfl rfl, mem_tb 87 rfl rfl, by decide +kernel⟩, mem_tb 678 rfl rfl, mem_tb 679 rfl rfl⟩
set_option maxRecDepth 20000 in
theorem lk_X6_181 : LkV RX6 181 yX3_findPartners cX3_findPartners 3 none 0 := ⟨⟨mem_tb 684 rfl rfl, mem_tb 681 rfl rfl, mem_tb 88 rfl rfl, by decide +kernel⟩, mem_tb 682 rfl rfl, mem_tb 683 rfl rfl⟩
set_option maxRecDepth 20000 in
theorem lk_X6_184 : LkS RX6 184 yJ6_bitCount_0f7a4 cJ6_bitCount_0f7a4 1 (some .int) 1 := ⟨⟨mem_tb 687 rfl rfl, mem_tb 685 rfl rfl, mem_tb 102 rfl rfl, by decide +kernel⟩, mem_tb 686 rfl rfl⟩
set_option maxRecDepth 20000 in
theorem lk_X6_189 : LkV RX6 189 yX3_isQuietWithout cX3_isQuietWithout 3 (some .boolean) 1 := ⟨⟨mem_tb 694 rfl rfl, mem_tb 691 rfl rfl, mem_tb 88 rfl rfl, by decide +kernel⟩, mem_tb 692 rfl rfl, mem_tb 693 rfl rfl⟩
set_option maxRecDepth 20000 in
theorem lk_L_74 : LkV RL 74 yX6_fingers cX6_fingers 3 (some .int) 2 := ⟨⟨mem_tb 698 rfl rfl, mem_tb 695 rfl rfl, mem_tb 87 rfl rfl, by decide +kernel⟩, mem_tb 696 rfl rfl, mem_tb 697 rfl rfl⟩
set_option maxRecDepth 20000 in
theorem lk_X6_192 : LkV RX6 192 yX0_solve cX0_solve 5 none 2 := ⟨⟨mem_tb 702 rfl rfl, mem_tb 699 rfl rfl, mem_tb 92 rfl rfl, by decide +kernel⟩, mem_tb 700 rfl rfl, mem_tb 701 rfl rfl⟩
set_option maxRecDepth 20000 in
theorem lk_X0_21 : LkV RX0 21 yX0_sortNotes cX0_sortNotes 5 none 2 := ⟨⟨mem_tb 706 rfl rfl, mem_tb 703 rfl rfl, mem_tb 92 rfl rfl, by decide +kernel⟩, mem_tb 705 rfl rfl, mem_tb 24 rfl rfl⟩
set_option maxRecDepth 20000 in
theorem lk_X0_47 : LkV RX0 47 yX0_isAhead cX0_isAhead 4 (some .boolean) 3 := ⟨⟨mem_tb 710 rfl rfl, mem_tb 707 rfl rfl, mem_tb 92 rfl rfl, by decide +kernel⟩, mem_tb 709 rfl rfl, mem_tb 25 rfl rfl⟩
set_option maxRecDepth 20000 in
theorem lk_X0_32 : LkV RX0 32 yX0_leastFrom cX0_leastFrom 4 (some .int) 3 := ⟨⟨mem_tb 714 rfl rfl, mem_tb 711 rfl rfl, mem_tb 92 rfl rfl, by decide +kernel⟩, mem_tb 713 rfl rfl, mem_tb 26 rfl rfl⟩
set_option maxRecDepth 20000 in
theorem lk_X0_36 : LkV RX0 36 yX0_nextFinger cX0_nextFinger 6 (some .int) 3 := ⟨⟨mem_tb 718 rfl rfl, mem_tb 715 rfl rfl, mem_tb 92 rfl rfl, by decide +kernel⟩, mem_tb 717 rfl rfl, mem_tb 27 rfl rfl⟩
set_option maxRecDepth 20000 in
theorem lk_X0_57 : LkV RX0 57 yX0_costBy cX0_costBy 8 (some .int) 4 := ⟨⟨mem_tb 722 rfl rfl, mem_tb 719 rfl rfl, mem_tb 92 rfl rfl, by decide +kernel⟩, mem_tb 721 rfl rfl, mem_tb 28 rfl rfl⟩
set_option maxRecDepth 20000 in
theorem lk_X0_61 : LkS RX0 61 yJ9_abs_0f7a4 cJ9_abs_0f7a4 1 (some .int) 1 := ⟨⟨mem_tb 575 rfl rfl, mem_tb 723 rfl rfl, mem_tb 96 rfl rfl, by decide +kernel⟩, mem_tb 574 rfl rfl⟩
set_option maxRecDepth 20000 in
theorem lk_L_78 : LkV RL 78 yX6_pedal cX6_pedal 3 (some .int) 2 := ⟨⟨mem_tb 727 rfl rfl, mem_tb 724 rfl rfl, mem_tb 87 rfl rfl, by decide +kernel⟩, mem_tb 725 rfl rfl, mem_tb 726 rfl rfl⟩
set_option maxRecDepth 20000 in
theorem lk_L_82 : LkV RL 82 yX6_blurs cX6_blurs 2 (some .int) 1 := ⟨⟨mem_tb 731 rfl rfl, mem_tb 728 rfl rfl, mem_tb 87 rfl rfl, by decide +kernel⟩, mem_tb 729 rfl rfl, mem_tb 730 rfl rfl⟩
set_option maxRecDepth 20000 in
theorem lk_X6_206 : LkV RX6 206 yX2_gather cX2_gather 2 none 1 := ⟨⟨mem_tb 735 rfl rfl, mem_tb 732 rfl rfl, mem_tb 93 rfl rfl, by decide +kernel⟩, mem_tb 733 rfl rfl, mem_tb 734 rfl rfl⟩
set_option maxRecDepth 20000 in
theorem lk_X2_21 : LkV RX2 21 yX2_gatherEnds cX2_gatherEnds 6 none 1 := ⟨⟨mem_tb 739 rfl rfl, mem_tb 736 rfl rfl, mem_tb 93 rfl rfl, by decide +kernel⟩, mem_tb 738 rfl rfl, mem_tb 29 rfl rfl⟩
set_option maxRecDepth 20000 in
theorem lk_X2_34 : LkV RX2 34 yX3_isPlayed cX3_isPlayed 2 (some .boolean) 1 := ⟨⟨mem_tb 660 rfl rfl, mem_tb 740 rfl rfl, mem_tb 88 rfl rfl, by decide +kernel⟩, mem_tb 658 rfl rfl, mem_tb 659 rfl rfl⟩
set_option maxRecDepth 20000 in
theorem lk_X2_25 : LkV RX2 25 yX2_gatherPairs cX2_gatherPairs 5 none 1 := ⟨⟨mem_tb 744 rfl rfl, mem_tb 741 rfl rfl, mem_tb 93 rfl rfl, by decide +kernel⟩, mem_tb 743 rfl rfl, mem_tb 30 rfl rfl⟩
set_option maxRecDepth 20000 in
theorem lk_X2_53 : LkS RX2 53 yJ9_abs_0f7a4 cJ9_abs_0f7a4 1 (some .int) 1 := ⟨⟨mem_tb 575 rfl rfl, mem_tb 745 rfl rfl, mem_tb 96 rfl rfl, by decide +kernel⟩, mem_tb 574 rfl rfl⟩
set_option maxRecDepth 20000 in
theorem lk_X2_63 : LkS RX2 63 yJ9_min_7cf53 cJ9_min_7cf53 2 (some .int) 2 := ⟨⟨mem_tb 416 rfl rfl, mem_tb 747 rfl rfl, mem_tb 96 rfl rfl, by decide +kernel⟩, mem_tb 415 rfl rfl⟩
set_option maxRecDepth 20000 in
theorem lk_X2_67 : LkS RX2 67 yJ9_max_7cf53 cJ9_max_7cf53 2 (some .int) 2 := ⟨⟨mem_tb 578 rfl rfl, mem_tb 748 rfl rfl, mem_tb 96 rfl rfl, by decide +kernel⟩, mem_tb 577 rfl rfl⟩
set_option maxRecDepth 20000 in
theorem lk_X6_209 : LkV RX6 209 yX2_blurred cX2_blurred 5 (some .int) 2 := ⟨⟨mem_tb 752 rfl rfl, mem_tb 749 rfl rfl, mem_tb 93 rfl rfl, by decide +kernel⟩, mem_tb 750 rfl rfl, mem_tb 751 rfl rfl⟩
set_option maxRecDepth 20000 in
theorem lk_X6_212 : LkV RX6 212 yX2_joined cX2_joined 5 (some .int) 2 := ⟨⟨mem_tb 756 rfl rfl, mem_tb 753 rfl rfl, mem_tb 93 rfl rfl, by decide +kernel⟩, mem_tb 754 rfl rfl, mem_tb 755 rfl rfl⟩
set_option maxRecDepth 20000 in
theorem lk_L_86 : LkV RL 86 yX6_best cX6_best 2 (some .int) 1 := ⟨⟨mem_tb 760 rfl rfl, mem_tb 757 rfl rfl, mem_tb 87 rfl rfl, by decide +kernel⟩, mem_tb 758 rfl rfl, mem_tb 759 rfl rfl⟩
set_option maxRecDepth 20000 in
theorem lk_X6_215 : LkV RX6 215 yX2_findBest cX2_findBest 4 none 0 := ⟨⟨mem_tb 764 rfl rfl, mem_tb 761 rfl rfl, mem_tb 93 rfl rfl, by decide +kernel⟩, mem_tb 762 rfl rfl, mem_tb 763 rfl rfl⟩
set_option maxRecDepth 20000 in
theorem lk_X2_79 : LkV RX2 79 yX2_joined cX2_joined 5 (some .int) 2 := ⟨⟨mem_tb 756 rfl rfl, mem_tb 765 rfl rfl, mem_tb 93 rfl rfl, by decide +kernel⟩, mem_tb 754 rfl rfl, mem_tb 755 rfl rfl⟩
set_option maxRecDepth 20000 in
theorem lk_X2_82 : LkV RX2 82 yX2_blurred cX2_blurred 5 (some .int) 2 := ⟨⟨mem_tb 752 rfl rfl, mem_tb 766 rfl rfl, mem_tb 93 rfl rfl, by decide +kernel⟩, mem_tb 750 rfl rfl, mem_tb 751 rfl rfl⟩
set_option maxRecDepth 20000 in
theorem lk_L_90 : LkV RL 90 yX6_turns cX6_turns 6 (some .int) 3 := ⟨⟨mem_tb 770 rfl rfl, mem_tb 767 rfl rfl, mem_tb 87 rfl rfl, by decide +kernel⟩, mem_tb 768 rfl rfl, mem_tb 769 rfl rfl⟩
set_option maxRecDepth 20000 in
theorem lk_X6_227 : LkV RX6 227 yX6_freeHand cX6_freeHand 6 (some .int) 2 := ⟨⟨mem_tb 774 rfl rfl, mem_tb 771 rfl rfl, mem_tb 87 rfl rfl, by decide +kernel⟩, mem_tb 773 rfl rfl, mem_tb 31 rfl rfl⟩
set_option maxRecDepth 20000 in
theorem lk_X6_292 : LkV RX6 292 yX3_isFree cX3_isFree 4 (some .boolean) 2 := ⟨⟨mem_tb 778 rfl rfl, mem_tb 775 rfl rfl, mem_tb 88 rfl rfl, by decide +kernel⟩, mem_tb 776 rfl rfl, mem_tb 777 rfl rfl⟩
set_option maxRecDepth 20000 in
theorem lk_X3_115 : LkV RX3 115 yX3_sounds cX3_sounds 3 (some .boolean) 2 := ⟨⟨mem_tb 782 rfl rfl, mem_tb 779 rfl rfl, mem_tb 88 rfl rfl, by decide +kernel⟩, mem_tb 780 rfl rfl, mem_tb 781 rfl rfl⟩
set_option maxRecDepth 20000 in
theorem lk_X3_79 : LkV RX3 79 yX3_isPlayed cX3_isPlayed 2 (some .boolean) 1 := ⟨⟨mem_tb 660 rfl rfl, mem_tb 783 rfl rfl, mem_tb 88 rfl rfl, by decide +kernel⟩, mem_tb 658 rfl rfl, mem_tb 659 rfl rfl⟩
set_option maxRecDepth 20000 in
theorem lk_L_95 : LkV RL 95 yX6_covered cX6_covered 4 (some .long) 0 := ⟨⟨mem_tb 787 rfl rfl, mem_tb 784 rfl rfl, mem_tb 87 rfl rfl, by decide +kernel⟩, mem_tb 785 rfl rfl, mem_tb 786 rfl rfl⟩
set_option maxRecDepth 20000 in
theorem lk_X6_230 : LkV RX6 230 yX3_isCovered cX3_isCovered 5 (some .boolean) 1 := ⟨⟨mem_tb 791 rfl rfl, mem_tb 788 rfl rfl, mem_tb 88 rfl rfl, by decide +kernel⟩, mem_tb 789 rfl rfl, mem_tb 790 rfl rfl⟩
set_option maxRecDepth 20000 in
theorem lk_L_100 : LkV RL 100 yX6_places cX6_places 2 (some .int) 0 := ⟨⟨mem_tb 795 rfl rfl, mem_tb 792 rfl rfl, mem_tb 87 rfl rfl, by decide +kernel⟩, mem_tb 793 rfl rfl, mem_tb 794 rfl rfl⟩
set_option maxRecDepth 20000 in
theorem lk_L_104 : LkV RL 104 yX6_practice cX6_practice 3 (some .int) 2 := ⟨⟨mem_tb 799 rfl rfl, mem_tb 796 rfl rfl, mem_tb 87 rfl rfl, by decide +kernel⟩, mem_tb 797 rfl rfl, mem_tb 798 rfl rfl⟩
set_option maxRecDepth 20000 in
theorem lk_X6_233 : LkV RX6 233 yX4_solve cX4_solve 6 none 2 := ⟨⟨mem_tb 803 rfl rfl, mem_tb 800 rfl rfl, mem_tb 94 rfl rfl, by decide +kernel⟩, mem_tb 801 rfl rfl, mem_tb 802 rfl rfl⟩
set_option maxRecDepth 20000 in
theorem lk_X4_21 : LkV RX4 21 yX4_countSlips cX4_countSlips 4 none 1 := ⟨⟨mem_tb 807 rfl rfl, mem_tb 804 rfl rfl, mem_tb 94 rfl rfl, by decide +kernel⟩, mem_tb 806 rfl rfl, mem_tb 32 rfl rfl⟩
set_option maxRecDepth 20000 in
theorem lk_X4_41 : LkS RX4 41 yJ7_fill_53178 cJ7_fill_53178 4 none 2 := ⟨⟨mem_tb 119 rfl rfl, mem_tb 808 rfl rfl, mem_tb 89 rfl rfl, by decide +kernel⟩, mem_tb 118 rfl rfl⟩
set_option maxRecDepth 20000 in
theorem lk_X4_52 : LkV RX4 52 yX3_isPlayed cX3_isPlayed 2 (some .boolean) 1 := ⟨⟨mem_tb 660 rfl rfl, mem_tb 809 rfl rfl, mem_tb 88 rfl rfl, by decide +kernel⟩, mem_tb 658 rfl rfl, mem_tb 659 rfl rfl⟩
set_option maxRecDepth 20000 in
theorem lk_X4_59 : LkV RX4 59 yX3_sortOf cX3_sortOf 3 (some .int) 2 := ⟨⟨mem_tb 568 rfl rfl, mem_tb 810 rfl rfl, mem_tb 88 rfl rfl, by decide +kernel⟩, mem_tb 566 rfl rfl, mem_tb 567 rfl rfl⟩
set_option maxRecDepth 20000 in
theorem lk_X4_62 : LkS RX4 62 yJ9_max_7cf53 cJ9_max_7cf53 2 (some .int) 2 := ⟨⟨mem_tb 578 rfl rfl, mem_tb 811 rfl rfl, mem_tb 96 rfl rfl, by decide +kernel⟩, mem_tb 577 rfl rfl⟩
set_option maxRecDepth 20000 in
theorem lk_X4_25 : LkV RX4 25 yX4_hoursHere cX4_hoursHere 5 (some .int) 2 := ⟨⟨mem_tb 815 rfl rfl, mem_tb 812 rfl rfl, mem_tb 94 rfl rfl, by decide +kernel⟩, mem_tb 814 rfl rfl, mem_tb 33 rfl rfl⟩
set_option maxRecDepth 20000 in
theorem lk_X4_29 : LkV RX4 29 yX4_leaves cX4_leaves 4 (some .int) 3 := ⟨⟨mem_tb 819 rfl rfl, mem_tb 816 rfl rfl, mem_tb 94 rfl rfl, by decide +kernel⟩, mem_tb 818 rfl rfl, mem_tb 34 rfl rfl⟩
set_option maxRecDepth 20000 in
theorem lk_X4_37 : LkV RX4 37 yX4_fillRow cX4_fillRow 6 none 1 := ⟨⟨mem_tb 823 rfl rfl, mem_tb 820 rfl rfl, mem_tb 94 rfl rfl, by decide +kernel⟩, mem_tb 822 rfl rfl, mem_tb 35 rfl rfl⟩
set_option maxRecDepth 20000 in
theorem lk_L_108 : LkV RL 108 yX6_breath cX6_breath 6 (some .int) 2 := ⟨⟨mem_tb 827 rfl rfl, mem_tb 824 rfl rfl, mem_tb 87 rfl rfl, by decide +kernel⟩, mem_tb 825 rfl rfl, mem_tb 826 rfl rfl⟩
set_option maxRecDepth 20000 in
theorem lk_X6_238 : LkS RX6 238 yJ9_abs_0f7a4 cJ9_abs_0f7a4 1 (some .int) 1 := ⟨⟨mem_tb 575 rfl rfl, mem_tb 828 rfl rfl, mem_tb 96 rfl rfl, by decide +kernel⟩, mem_tb 574 rfl rfl⟩
set_option maxRecDepth 20000 in
theorem lk_X6_243 : LkV RX6 243 yX6_setFraction cX6_setFraction 7 none 2 := ⟨⟨mem_tb 832 rfl rfl, mem_tb 829 rfl rfl, mem_tb 87 rfl rfl, by decide +kernel⟩, mem_tb 831 rfl rfl, mem_tb 36 rfl rfl⟩
set_option maxRecDepth 20000 in
theorem lk_L_112 : LkV RL 112 yX6_heard cX6_heard 4 (some .int) 2 := ⟨⟨mem_tb 836 rfl rfl, mem_tb 833 rfl rfl, mem_tb 87 rfl rfl, by decide +kernel⟩, mem_tb 834 rfl rfl, mem_tb 835 rfl rfl⟩
set_option maxRecDepth 20000 in
theorem lk_L_116 : LkV RL 116 yX6_late cX6_late 3 (some .int) 0 := ⟨⟨mem_tb 840 rfl rfl, mem_tb 837 rfl rfl, mem_tb 87 rfl rfl, by decide +kernel⟩, mem_tb 838 rfl rfl, mem_tb 839 rfl rfl⟩
set_option maxRecDepth 20000 in
theorem lk_X6_249 : LkV RX6 249 yX3_isExplainedBy cX3_isExplainedBy 6 (some .boolean) 1 := ⟨⟨mem_tb 844 rfl rfl, mem_tb 841 rfl rfl, mem_tb 88 rfl rfl, by decide +kernel⟩, mem_tb 842 rfl rfl, mem_tb 843 rfl rfl⟩
set_option maxRecDepth 20000 in
theorem lk_X3_119 : LkS RX3 119 yJ9_min_7cf53 cJ9_min_7cf53 2 (some .int) 2 := ⟨⟨mem_tb 416 rfl rfl, mem_tb 845 rfl rfl, mem_tb 96 rfl rfl, by decide +kernel⟩, mem_tb 415 rfl rfl⟩
set_option maxRecDepth 20000 in
theorem lk_L_120 : LkV RL 120 yX6_evening cX6_evening 6 (some .int) 2 := ⟨⟨mem_tb 849 rfl rfl, mem_tb 846 rfl rfl, mem_tb 87 rfl rfl, by decide +kernel⟩, mem_tb 847 rfl rfl, mem_tb 848 rfl rfl⟩
set_option maxRecDepth 20000 in
theorem lk_L_124 : LkV RL 124 yX6_part cX6_part 2 (some .long) 1 := ⟨⟨mem_tb 859 rfl rfl, mem_tb 856 rfl rfl, mem_tb 87 rfl rfl, by decide +kernel⟩, mem_tb 857 rfl rfl, mem_tb 858 rfl rfl⟩
set_option maxRecDepth 20000 in
theorem lk_L_129 : LkV RL 129 yX6_image cX6_image 2 (some .int) 1 := ⟨⟨mem_tb 863 rfl rfl, mem_tb 860 rfl rfl, mem_tb 87 rfl rfl, by decide +kernel⟩, mem_tb 861 rfl rfl, mem_tb 862 rfl rfl⟩
set_option maxRecDepth 20000 in
theorem lk_L_133 : LkV RL 133 yX6_from cX6_from 2 (some .int) 1 := ⟨⟨mem_tb 867 rfl rfl, mem_tb 864 rfl rfl, mem_tb 87 rfl rfl, by decide +kernel⟩, mem_tb 865 rfl rfl, mem_tb 866 rfl rfl⟩
set_option maxRecDepth 20000 in
theorem lk_L_137 : LkV RL 137 yX6_status cX6_status 2 (some .int) 1 := ⟨⟨mem_tb 871 rfl rfl, mem_tb 868 rfl rfl, mem_tb 87 rfl rfl, by decide +kernel⟩, mem_tb 869 rfl rfl, mem_tb 870 rfl rfl⟩
set_option maxRecDepth 20000 in
theorem lk_L_141 : LkV RL 141 yX6_count cX6_count 2 (some .int) 1 := ⟨⟨mem_tb 875 rfl rfl, mem_tb 872 rfl rfl, mem_tb 87 rfl rfl, by decide +kernel⟩, mem_tb 873 rfl rfl, mem_tb 874 rfl rfl⟩
set_option maxRecDepth 20000 in
theorem lk_X6_281 : LkV RX6 281 yX6_howMany cX6_howMany 2 (some .int) 1 := ⟨⟨mem_tb 879 rfl rfl, mem_tb 876 rfl rfl, mem_tb 87 rfl rfl, by decide +kernel⟩, mem_tb 878 rfl rfl, mem_tb 37 rfl rfl⟩
set_option maxRecDepth 20000 in
theorem lk_X6_296 : LkV RX6 296 yX3_playedCount cX3_playedCount 3 (some .int) 0 := ⟨⟨mem_tb 883 rfl rfl, mem_tb 880 rfl rfl, mem_tb 88 rfl rfl, by decide +kernel⟩, mem_tb 881 rfl rfl, mem_tb 882 rfl rfl⟩
set_option maxRecDepth 20000 in
theorem lk_L_145 : LkV RL 145 yX6_digest cX6_digest 4 (some .long) 0 := ⟨⟨mem_tb 887 rfl rfl, mem_tb 884 rfl rfl, mem_tb 87 rfl rfl, by decide +kernel⟩, mem_tb 885 rfl rfl, mem_tb 886 rfl rfl⟩
set_option maxRecDepth 20000 in
theorem lk_X6_288 : LkV RX6 288 yX3_digestFrom cX3_digestFrom 6 (some .long) 1 := ⟨⟨mem_tb 893 rfl rfl, mem_tb 890 rfl rfl, mem_tb 88 rfl rfl, by decide +kernel⟩, mem_tb 891 rfl rfl, mem_tb 892 rfl rfl⟩
set_option maxRecDepth 20000 in
theorem lk_L_12 : LkI RL 12 yX7_init cX7_init 1 0 := ⟨⟨mem_tb 899 rfl rfl, mem_tb 897 rfl rfl, mem_tb 95 rfl rfl, by decide +kernel⟩, rfl, mem_tb 898 rfl rfl⟩
set_option maxRecDepth 20000 in
theorem lk_X7_60 : LkS RX7 60 yX7_begin cX7_begin 3 none 2 := ⟨⟨mem_tb 903 rfl rfl, mem_tb 901 rfl rfl, mem_tb 95 rfl rfl, by decide +kernel⟩, mem_tb 902 rfl rfl⟩
set_option maxRecDepth 20000 in
theorem lk_L_17 : LkV RL 17 yX7_piece cX7_piece 3 (some .int) 1 := ⟨⟨mem_tb 993 rfl rfl, mem_tb 990 rfl rfl, mem_tb 95 rfl rfl, by decide +kernel⟩, mem_tb 991 rfl rfl, mem_tb 992 rfl rfl⟩
set_option maxRecDepth 20000 in
theorem lk_X7_68 : LkS RX7 68 yX7_in cX7_in 6 (some .boolean) 3 := ⟨⟨mem_tb 997 rfl rfl, mem_tb 995 rfl rfl, mem_tb 95 rfl rfl, by decide +kernel⟩, mem_tb 996 rfl rfl⟩
set_option maxRecDepth 20000 in
theorem lk_X7_76 : LkV RX7 76 yX7_bad cX7_bad 2 (some .int) 1 := ⟨⟨mem_tb 1001 rfl rfl, mem_tb 998 rfl rfl, mem_tb 95 rfl rfl, by decide +kernel⟩, mem_tb 1000 rfl rfl, mem_tb 38 rfl rfl⟩
set_option maxRecDepth 20000 in
theorem lk_X7_64 : LkV RX7 64 yX7_notes cX7_notes 1 (some .int) 0 := ⟨⟨mem_tb 1005 rfl rfl, mem_tb 1002 rfl rfl, mem_tb 95 rfl rfl, by decide +kernel⟩, mem_tb 1004 rfl rfl, mem_tb 39 rfl rfl⟩
set_option maxRecDepth 20000 in
theorem lk_L_22 : LkV RL 22 yX7_hand cX7_hand 6 (some .int) 4 := ⟨⟨mem_tb 1009 rfl rfl, mem_tb 1006 rfl rfl, mem_tb 95 rfl rfl, by decide +kernel⟩, mem_tb 1007 rfl rfl, mem_tb 1008 rfl rfl⟩
set_option maxRecDepth 20000 in
theorem lk_X7_80 : LkS RX7 80 yX7_isHand cX7_isHand 1 (some .boolean) 1 := ⟨⟨mem_tb 1012 rfl rfl, mem_tb 1010 rfl rfl, mem_tb 95 rfl rfl, by decide +kernel⟩, mem_tb 1011 rfl rfl⟩
set_option maxRecDepth 20000 in
theorem lk_X7_88 : LkS RX7 88 yX7_layHand cX7_layHand 5 none 5 := ⟨⟨mem_tb 1018 rfl rfl, mem_tb 1016 rfl rfl, mem_tb 95 rfl rfl, by decide +kernel⟩, mem_tb 1017 rfl rfl⟩
set_option maxRecDepth 20000 in
theorem lk_L_27 : LkV RL 27 yX7_note cX7_note 7 (some .int) 6 := ⟨⟨mem_tb 1022 rfl rfl, mem_tb 1019 rfl rfl, mem_tb 95 rfl rfl, by decide +kernel⟩, mem_tb 1020 rfl rfl, mem_tb 1021 rfl rfl⟩
set_option maxRecDepth 20000 in
theorem lk_X7_100 : LkV RX7 100 yX7_full cX7_full 1 (some .int) 0 := ⟨⟨mem_tb 1030 rfl rfl, mem_tb 1027 rfl rfl, mem_tb 95 rfl rfl, by decide +kernel⟩, mem_tb 1029 rfl rfl, mem_tb 40 rfl rfl⟩
set_option maxRecDepth 20000 in
theorem lk_X7_103 : LkS RX7 103 yX7_layNote cX7_layNote 8 none 7 := ⟨⟨mem_tb 1033 rfl rfl, mem_tb 1031 rfl rfl, mem_tb 95 rfl rfl, by decide +kernel⟩, mem_tb 1032 rfl rfl⟩
set_option maxRecDepth 20000 in
theorem lk_L_45 : LkV RL 45 yX7_give cX7_give 3 (some .int) 2 := ⟨⟨mem_tb 1037 rfl rfl, mem_tb 1034 rfl rfl, mem_tb 95 rfl rfl, by decide +kernel⟩, mem_tb 1035 rfl rfl, mem_tb 1036 rfl rfl⟩
set_option maxRecDepth 20000 in
theorem lk_X7_142 : LkV RX7 142 yX7_isNote cX7_isNote 2 (some .boolean) 1 := ⟨⟨mem_tb 1041 rfl rfl, mem_tb 1038 rfl rfl, mem_tb 95 rfl rfl, by decide +kernel⟩, mem_tb 1040 rfl rfl, mem_tb 41 rfl rfl⟩
set_option maxRecDepth 20000 in
theorem lk_X7_145 : LkV RX7 145 yX7_keep cX7_keep 2 none 0 := ⟨⟨mem_tb 1045 rfl rfl, mem_tb 1042 rfl rfl, mem_tb 95 rfl rfl, by decide +kernel⟩, mem_tb 1044 rfl rfl, mem_tb 42 rfl rfl⟩
set_option maxRecDepth 20000 in
theorem lk_X7_110 : LkV RX7 110 yX7_get cX7_get 3 (some .int) 2 := ⟨⟨mem_tb 1049 rfl rfl, mem_tb 1046 rfl rfl, mem_tb 95 rfl rfl, by decide +kernel⟩, mem_tb 1048 rfl rfl, mem_tb 43 rfl rfl⟩
set_option maxRecDepth 20000 in
theorem lk_X7_148 : LkV RX7 148 yX7_setHand cX7_setHand 3 none 2 := ⟨⟨mem_tb 1053 rfl rfl, mem_tb 1050 rfl rfl, mem_tb 95 rfl rfl, by decide +kernel⟩, mem_tb 1052 rfl rfl, mem_tb 44 rfl rfl⟩
set_option maxRecDepth 20000 in
theorem lk_X7_152 : LkV RX7 152 yX7_clashesNow cX7_clashesNow 4 (some .int) 0 := ⟨⟨mem_tb 1057 rfl rfl, mem_tb 1054 rfl rfl, mem_tb 95 rfl rfl, by decide +kernel⟩, mem_tb 1056 rfl rfl, mem_tb 45 rfl rfl⟩
set_option maxRecDepth 20000 in
theorem lk_X7_139 : LkV RX7 139 yX7_clashOf cX7_clashOf 8 (some .int) 2 := ⟨⟨mem_tb 1061 rfl rfl, mem_tb 1058 rfl rfl, mem_tb 95 rfl rfl, by decide +kernel⟩, mem_tb 1060 rfl rfl, mem_tb 46 rfl rfl⟩
set_option maxRecDepth 20000 in
theorem lk_X7_123 : LkV RX7 123 yX7_isPlayed cX7_isPlayed 2 (some .boolean) 1 := ⟨⟨mem_tb 1065 rfl rfl, mem_tb 1062 rfl rfl, mem_tb 95 rfl rfl, by decide +kernel⟩, mem_tb 1064 rfl rfl, mem_tb 47 rfl rfl⟩
set_option maxRecDepth 20000 in
theorem lk_X7_120 : LkS RX7 120 yX7_apart cX7_apart 2 (some .int) 2 := ⟨⟨mem_tb 1068 rfl rfl, mem_tb 1066 rfl rfl, mem_tb 95 rfl rfl, by decide +kernel⟩, mem_tb 1067 rfl rfl⟩
set_option maxRecDepth 20000 in
theorem lk_X7_126 : LkV RX7 126 yX7_soundTogether cX7_soundTogether 3 (some .boolean) 2 := ⟨⟨mem_tb 1072 rfl rfl, mem_tb 1069 rfl rfl, mem_tb 95 rfl rfl, by decide +kernel⟩, mem_tb 1071 rfl rfl, mem_tb 48 rfl rfl⟩
set_option maxRecDepth 20000 in
theorem lk_X7_114 : LkV RX7 114 yX7_endOf cX7_endOf 2 (some .int) 1 := ⟨⟨mem_tb 1076 rfl rfl, mem_tb 1073 rfl rfl, mem_tb 95 rfl rfl, by decide +kernel⟩, mem_tb 1075 rfl rfl, mem_tb 49 rfl rfl⟩
set_option maxRecDepth 20000 in
theorem lk_X7_130 : LkV RX7 130 yX7_byTwo cX7_byTwo 8 (some .int) 2 := ⟨⟨mem_tb 1080 rfl rfl, mem_tb 1077 rfl rfl, mem_tb 95 rfl rfl, by decide +kernel⟩, mem_tb 1079 rfl rfl, mem_tb 50 rfl rfl⟩
set_option maxRecDepth 20000 in
theorem lk_X7_117 : LkV RX7 117 yX7_nearOf cX7_nearOf 3 (some .int) 1 := ⟨⟨mem_tb 1084 rfl rfl, mem_tb 1081 rfl rfl, mem_tb 95 rfl rfl, by decide +kernel⟩, mem_tb 1083 rfl rfl, mem_tb 51 rfl rfl⟩
set_option maxRecDepth 20000 in
theorem lk_X7_107 : LkV RX7 107 yX7_kindOf cX7_kindOf 2 (some .int) 1 := ⟨⟨mem_tb 1088 rfl rfl, mem_tb 1085 rfl rfl, mem_tb 95 rfl rfl, by decide +kernel⟩, mem_tb 1087 rfl rfl, mem_tb 52 rfl rfl⟩
set_option maxRecDepth 20000 in
theorem lk_X7_133 : LkV RX7 133 yX7_reaches cX7_reaches 4 (some .int) 1 := ⟨⟨mem_tb 1092 rfl rfl, mem_tb 1089 rfl rfl, mem_tb 95 rfl rfl, by decide +kernel⟩, mem_tb 1091 rfl rfl, mem_tb 53 rfl rfl⟩
set_option maxRecDepth 20000 in
theorem lk_X7_136 : LkV RX7 136 yX7_moves cX7_moves 3 (some .int) 1 := ⟨⟨mem_tb 1096 rfl rfl, mem_tb 1093 rfl rfl, mem_tb 95 rfl rfl, by decide +kernel⟩, mem_tb 1095 rfl rfl, mem_tb 54 rfl rfl⟩
set_option maxRecDepth 20000 in
theorem lk_L_49 : LkV RL 49 yX7_undo cX7_undo 2 (some .int) 0 := ⟨⟨mem_tb 1100 rfl rfl, mem_tb 1097 rfl rfl, mem_tb 95 rfl rfl, by decide +kernel⟩, mem_tb 1098 rfl rfl, mem_tb 1099 rfl rfl⟩
set_option maxRecDepth 20000 in
theorem lk_X7_155 : LkV RX7 155 yX7_no cX7_no 2 (some .int) 1 := ⟨⟨mem_tb 1104 rfl rfl, mem_tb 1101 rfl rfl, mem_tb 95 rfl rfl, by decide +kernel⟩, mem_tb 1103 rfl rfl, mem_tb 55 rfl rfl⟩
set_option maxRecDepth 20000 in
theorem lk_L_53 : LkV RL 53 yX7_of cX7_of 3 (some .int) 2 := ⟨⟨mem_tb 1108 rfl rfl, mem_tb 1105 rfl rfl, mem_tb 95 rfl rfl, by decide +kernel⟩, mem_tb 1106 rfl rfl, mem_tb 1107 rfl rfl⟩
set_option maxRecDepth 20000 in
theorem lk_L_57 : LkV RL 57 yX7_about cX7_about 3 (some .int) 2 := ⟨⟨mem_tb 1112 rfl rfl, mem_tb 1109 rfl rfl, mem_tb 95 rfl rfl, by decide +kernel⟩, mem_tb 1110 rfl rfl, mem_tb 1111 rfl rfl⟩
set_option maxRecDepth 20000 in
theorem lk_X7_160 : LkV RX7 160 yX7_notesOf cX7_notesOf 4 (some .int) 1 := ⟨⟨mem_tb 1117 rfl rfl, mem_tb 1114 rfl rfl, mem_tb 95 rfl rfl, by decide +kernel⟩, mem_tb 1116 rfl rfl, mem_tb 56 rfl rfl⟩
set_option maxRecDepth 20000 in
theorem lk_L_61 : LkV RL 61 yX7_clash cX7_clash 3 (some .int) 2 := ⟨⟨mem_tb 1121 rfl rfl, mem_tb 1118 rfl rfl, mem_tb 95 rfl rfl, by decide +kernel⟩, mem_tb 1119 rfl rfl, mem_tb 1120 rfl rfl⟩
set_option maxRecDepth 20000 in
theorem lk_L_65 : LkV RL 65 yX7_clashes cX7_clashes 8 (some .int) 2 := ⟨⟨mem_tb 1125 rfl rfl, mem_tb 1122 rfl rfl, mem_tb 95 rfl rfl, by decide +kernel⟩, mem_tb 1123 rfl rfl, mem_tb 1124 rfl rfl⟩
set_option maxRecDepth 20000 in
theorem lk_L_69 : LkV RL 69 yX7_given cX7_given 3 (some .int) 2 := ⟨⟨mem_tb 1129 rfl rfl, mem_tb 1126 rfl rfl, mem_tb 95 rfl rfl, by decide +kernel⟩, mem_tb 1127 rfl rfl, mem_tb 1128 rfl rfl⟩
set_option maxRecDepth 20000 in
theorem lk_X7_179 : LkV RX7 179 yX7_weigh cX7_weigh 5 none 3 := ⟨⟨mem_tb 1135 rfl rfl, mem_tb 1132 rfl rfl, mem_tb 95 rfl rfl, by decide +kernel⟩, mem_tb 1134 rfl rfl, mem_tb 57 rfl rfl⟩
set_option maxRecDepth 20000 in
theorem lk_X7_186 : LkV RX7 186 yX7_tryOne cX7_tryOne 5 none 1 := ⟨⟨mem_tb 1139 rfl rfl, mem_tb 1136 rfl rfl, mem_tb 95 rfl rfl, by decide +kernel⟩, mem_tb 1138 rfl rfl, mem_tb 58 rfl rfl⟩
set_option maxRecDepth 20000 in
theorem lk_X7_176 : LkV RX7 176 yX7_trySecond cX7_trySecond 6 none 2 := ⟨⟨mem_tb 1143 rfl rfl, mem_tb 1140 rfl rfl, mem_tb 95 rfl rfl, by decide +kernel⟩, mem_tb 1142 rfl rfl, mem_tb 59 rfl rfl⟩
set_option maxRecDepth 20000 in
theorem lk_L_73 : LkV RL 73 yX7_out cX7_out 7 (some .int) 0 := ⟨⟨mem_tb 1147 rfl rfl, mem_tb 1144 rfl rfl, mem_tb 95 rfl rfl, by decide +kernel⟩, mem_tb 1145 rfl rfl, mem_tb 1146 rfl rfl⟩
set_option maxRecDepth 20000 in
theorem lk_X7_190 : LkS RX7 190 yX7_bits cX7_bits 3 (some .int) 1 := ⟨⟨mem_tb 1150 rfl rfl, mem_tb 1148 rfl rfl, mem_tb 95 rfl rfl, by decide +kernel⟩, mem_tb 1149 rfl rfl⟩
set_option maxRecDepth 20000 in
theorem lk_L_77 : LkV RL 77 yX7_fingers cX7_fingers 10 (some .int) 2 := ⟨⟨mem_tb 1154 rfl rfl, mem_tb 1151 rfl rfl, mem_tb 95 rfl rfl, by decide +kernel⟩, mem_tb 1152 rfl rfl, mem_tb 1153 rfl rfl⟩
set_option maxRecDepth 20000 in
theorem lk_X7_203 : LkV RX7 203 yX7_layRow cX7_layRow 4 none 1 := ⟨⟨mem_tb 1158 rfl rfl, mem_tb 1155 rfl rfl, mem_tb 95 rfl rfl, by decide +kernel⟩, mem_tb 1157 rfl rfl, mem_tb 60 rfl rfl⟩
set_option maxRecDepth 20000 in
theorem lk_X7_196 : LkV RX7 196 yX7_isAhead cX7_isAhead 5 (some .boolean) 2 := ⟨⟨mem_tb 1162 rfl rfl, mem_tb 1159 rfl rfl, mem_tb 95 rfl rfl, by decide +kernel⟩, mem_tb 1161 rfl rfl, mem_tb 61 rfl rfl⟩
set_option maxRecDepth 20000 in
theorem lk_X7_207 : LkV RX7 207 yX7_onFrom cX7_onFrom 6 (some .int) 2 := ⟨⟨mem_tb 1166 rfl rfl, mem_tb 1163 rfl rfl, mem_tb 95 rfl rfl, by decide +kernel⟩, mem_tb 1165 rfl rfl, mem_tb 62 rfl rfl⟩
set_option maxRecDepth 20000 in
theorem lk_X7_199 : LkV RX7 199 yX7_cost cX7_cost 6 (some .int) 4 := ⟨⟨mem_tb 1170 rfl rfl, mem_tb 1167 rfl rfl, mem_tb 95 rfl rfl, by decide +kernel⟩, mem_tb 1169 rfl rfl, mem_tb 63 rfl rfl⟩
set_option maxRecDepth 20000 in
theorem lk_L_81 : LkV RL 81 yX7_pedal cX7_pedal 3 (some .int) 2 := ⟨⟨mem_tb 1174 rfl rfl, mem_tb 1171 rfl rfl, mem_tb 95 rfl rfl, by decide +kernel⟩, mem_tb 1172 rfl rfl, mem_tb 1173 rfl rfl⟩
set_option maxRecDepth 20000 in
theorem lk_L_85 : LkV RL 85 yX7_blurs cX7_blurs 2 (some .int) 1 := ⟨⟨mem_tb 1179 rfl rfl, mem_tb 1176 rfl rfl, mem_tb 95 rfl rfl, by decide +kernel⟩, mem_tb 1177 rfl rfl, mem_tb 1178 rfl rfl⟩
set_option maxRecDepth 20000 in
theorem lk_X7_215 : LkV RX7 215 yX7_blursBy cX7_blursBy 9 (some .int) 2 := ⟨⟨mem_tb 1183 rfl rfl, mem_tb 1180 rfl rfl, mem_tb 95 rfl rfl, by decide +kernel⟩, mem_tb 1182 rfl rfl, mem_tb 64 rfl rfl⟩
set_option maxRecDepth 20000 in
theorem lk_X7_218 : LkV RX7 218 yX7_joinsBy cX7_joinsBy 6 (some .int) 2 := ⟨⟨mem_tb 1187 rfl rfl, mem_tb 1184 rfl rfl, mem_tb 95 rfl rfl, by decide +kernel⟩, mem_tb 1186 rfl rfl, mem_tb 65 rfl rfl⟩
set_option maxRecDepth 20000 in
theorem lk_X7_212 : LkV RX7 212 yX7_begins cX7_begins 5 (some .boolean) 2 := ⟨⟨mem_tb 1191 rfl rfl, mem_tb 1188 rfl rfl, mem_tb 95 rfl rfl, by decide +kernel⟩, mem_tb 1190 rfl rfl, mem_tb 66 rfl rfl⟩
set_option maxRecDepth 20000 in
theorem lk_L_89 : LkV RL 89 yX7_best cX7_best 7 (some .int) 1 := ⟨⟨mem_tb 1195 rfl rfl, mem_tb 1192 rfl rfl, mem_tb 95 rfl rfl, by decide +kernel⟩, mem_tb 1193 rfl rfl, mem_tb 1194 rfl rfl⟩
set_option maxRecDepth 20000 in
theorem lk_L_94 : LkV RL 94 yX7_turns cX7_turns 7 (some .int) 3 := ⟨⟨mem_tb 1199 rfl rfl, mem_tb 1196 rfl rfl, mem_tb 95 rfl rfl, by decide +kernel⟩, mem_tb 1197 rfl rfl, mem_tb 1198 rfl rfl⟩
set_option maxRecDepth 20000 in
theorem lk_X7_224 : LkV RX7 224 yX7_freeHand cX7_freeHand 4 (some .int) 2 := ⟨⟨mem_tb 1203 rfl rfl, mem_tb 1200 rfl rfl, mem_tb 95 rfl rfl, by decide +kernel⟩, mem_tb 1202 rfl rfl, mem_tb 67 rfl rfl⟩
set_option maxRecDepth 20000 in
theorem lk_X7_221 : LkV RX7 221 yX7_isFree cX7_isFree 5 (some .boolean) 2 := ⟨⟨mem_tb 1207 rfl rfl, mem_tb 1204 rfl rfl, mem_tb 95 rfl rfl, by decide +kernel⟩, mem_tb 1206 rfl rfl, mem_tb 68 rfl rfl⟩
set_option maxRecDepth 20000 in
theorem lk_L_99 : LkV RL 99 yX7_covered cX7_covered 9 (some .long) 0 := ⟨⟨mem_tb 1211 rfl rfl, mem_tb 1208 rfl rfl, mem_tb 95 rfl rfl, by decide +kernel⟩, mem_tb 1209 rfl rfl, mem_tb 1210 rfl rfl⟩
set_option maxRecDepth 20000 in
theorem lk_L_103 : LkV RL 103 yX7_places cX7_places 3 (some .int) 0 := ⟨⟨mem_tb 1215 rfl rfl, mem_tb 1212 rfl rfl, mem_tb 95 rfl rfl, by decide +kernel⟩, mem_tb 1213 rfl rfl, mem_tb 1214 rfl rfl⟩
set_option maxRecDepth 20000 in
theorem lk_X7_227 : LkV RX7 227 yX7_changePlaces cX7_changePlaces 3 none 0 := ⟨⟨mem_tb 1219 rfl rfl, mem_tb 1216 rfl rfl, mem_tb 95 rfl rfl, by decide +kernel⟩, mem_tb 1218 rfl rfl, mem_tb 69 rfl rfl⟩
set_option maxRecDepth 20000 in
theorem lk_L_107 : LkV RL 107 yX7_practice cX7_practice 6 (some .int) 2 := ⟨⟨mem_tb 1223 rfl rfl, mem_tb 1220 rfl rfl, mem_tb 95 rfl rfl, by decide +kernel⟩, mem_tb 1221 rfl rfl, mem_tb 1222 rfl rfl⟩
set_option maxRecDepth 20000 in
theorem lk_X7_232 : LkV RX7 232 yX7_laySlips cX7_laySlips 4 none 0 := ⟨⟨mem_tb 1228 rfl rfl, mem_tb 1225 rfl rfl, mem_tb 95 rfl rfl, by decide +kernel⟩, mem_tb 1227 rfl rfl, mem_tb 70 rfl rfl⟩
set_option maxRecDepth 20000 in
theorem lk_X7_238 : LkV RX7 238 yX7_slipsBy cX7_slipsBy 4 (some .int) 1 := ⟨⟨mem_tb 1232 rfl rfl, mem_tb 1229 rfl rfl, mem_tb 95 rfl rfl, by decide +kernel⟩, mem_tb 1231 rfl rfl, mem_tb 71 rfl rfl⟩
set_option maxRecDepth 20000 in
theorem lk_X7_241 : LkV RX7 241 yX7_nextRow cX7_nextRow 5 (some .boolean) 1 := ⟨⟨mem_tb 1236 rfl rfl, mem_tb 1233 rfl rfl, mem_tb 95 rfl rfl, by decide +kernel⟩, mem_tb 1235 rfl rfl, mem_tb 72 rfl rfl⟩
set_option maxRecDepth 20000 in
theorem lk_L_111 : LkV RL 111 yX7_breath cX7_breath 6 (some .int) 2 := ⟨⟨mem_tb 1240 rfl rfl, mem_tb 1237 rfl rfl, mem_tb 95 rfl rfl, by decide +kernel⟩, mem_tb 1238 rfl rfl, mem_tb 1239 rfl rfl⟩
set_option maxRecDepth 20000 in
theorem lk_X7_249 : LkV RX7 249 yX7_tell cX7_tell 11 none 2 := ⟨⟨mem_tb 1245 rfl rfl, mem_tb 1242 rfl rfl, mem_tb 95 rfl rfl, by decide +kernel⟩, mem_tb 1244 rfl rfl, mem_tb 73 rfl rfl⟩
set_option maxRecDepth 20000 in
theorem lk_L_115 : LkV RL 115 yX7_heard cX7_heard 4 (some .int) 2 := ⟨⟨mem_tb 1249 rfl rfl, mem_tb 1246 rfl rfl, mem_tb 95 rfl rfl, by decide +kernel⟩, mem_tb 1247 rfl rfl, mem_tb 1248 rfl rfl⟩
set_option maxRecDepth 20000 in
theorem lk_L_119 : LkV RL 119 yX7_late cX7_late 4 (some .int) 0 := ⟨⟨mem_tb 1253 rfl rfl, mem_tb 1250 rfl rfl, mem_tb 95 rfl rfl, by decide +kernel⟩, mem_tb 1251 rfl rfl, mem_tb 1252 rfl rfl⟩
set_option maxRecDepth 20000 in
theorem lk_X7_253 : LkV RX7 253 yX7_explains cX7_explains 7 (some .boolean) 3 := ⟨⟨mem_tb 1257 rfl rfl, mem_tb 1254 rfl rfl, mem_tb 95 rfl rfl, by decide +kernel⟩, mem_tb 1256 rfl rfl, mem_tb 74 rfl rfl⟩
set_option maxRecDepth 20000 in
theorem lk_L_123 : LkV RL 123 yX7_evening cX7_evening 7 (some .int) 2 := ⟨⟨mem_tb 1261 rfl rfl, mem_tb 1258 rfl rfl, mem_tb 95 rfl rfl, by decide +kernel⟩, mem_tb 1259 rfl rfl, mem_tb 1260 rfl rfl⟩
set_option maxRecDepth 20000 in
theorem lk_L_31 : LkV RL 31 yX7_type cX7_type 2 (some .int) 1 := ⟨⟨mem_tb 1271 rfl rfl, mem_tb 1268 rfl rfl, mem_tb 95 rfl rfl, by decide +kernel⟩, mem_tb 1269 rfl rfl, mem_tb 1270 rfl rfl⟩
set_option maxRecDepth 20000 in
theorem lk_L_36 : LkV RL 36 yX7_clear cX7_clear 2 (some .int) 0 := ⟨⟨mem_tb 1276 rfl rfl, mem_tb 1273 rfl rfl, mem_tb 95 rfl rfl, by decide +kernel⟩, mem_tb 1274 rfl rfl, mem_tb 1275 rfl rfl⟩
set_option maxRecDepth 20000 in
theorem lk_L_40 : LkV RL 40 yX7_read cX7_read 3 (some .int) 0 := ⟨⟨mem_tb 1280 rfl rfl, mem_tb 1277 rfl rfl, mem_tb 95 rfl rfl, by decide +kernel⟩, mem_tb 1278 rfl rfl, mem_tb 1279 rfl rfl⟩
set_option maxRecDepth 20000 in
theorem lk_X7_300 : LkV RX7 300 yX7_lookAt cX7_lookAt 5 none 1 := ⟨⟨mem_tb 1284 rfl rfl, mem_tb 1281 rfl rfl, mem_tb 95 rfl rfl, by decide +kernel⟩, mem_tb 1283 rfl rfl, mem_tb 75 rfl rfl⟩
set_option maxRecDepth 20000 in
theorem lk_X7_294 : LkS RX7 294 yX7_isSmall cX7_isSmall 1 (some .boolean) 1 := ⟨⟨mem_tb 1287 rfl rfl, mem_tb 1285 rfl rfl, mem_tb 95 rfl rfl, by decide +kernel⟩, mem_tb 1286 rfl rfl⟩
set_option maxRecDepth 20000 in
theorem lk_X7_297 : LkS RX7 297 yX7_isFigure cX7_isFigure 1 (some .boolean) 1 := ⟨⟨mem_tb 1292 rfl rfl, mem_tb 1290 rfl rfl, mem_tb 95 rfl rfl, by decide +kernel⟩, mem_tb 1291 rfl rfl⟩
set_option maxRecDepth 20000 in
theorem lk_X7_320 : LkV RX7 320 yX7_readsFirst cX7_readsFirst 2 (some .boolean) 0 := ⟨⟨mem_tb 1298 rfl rfl, mem_tb 1295 rfl rfl, mem_tb 95 rfl rfl, by decide +kernel⟩, mem_tb 1297 rfl rfl, mem_tb 76 rfl rfl⟩
set_option maxRecDepth 20000 in
theorem lk_X7_306 : LkV RX7 306 yX7_isName cX7_isName 9 (some .boolean) 5 := ⟨⟨mem_tb 1302 rfl rfl, mem_tb 1299 rfl rfl, mem_tb 95 rfl rfl, by decide +kernel⟩, mem_tb 1301 rfl rfl, mem_tb 77 rfl rfl⟩
set_option maxRecDepth 20000 in
theorem lk_X7_303 : LkV RX7 303 yX7_goOn cX7_goOn 1 none 0 := ⟨⟨mem_tb 1306 rfl rfl, mem_tb 1303 rfl rfl, mem_tb 95 rfl rfl, by decide +kernel⟩, mem_tb 1305 rfl rfl, mem_tb 78 rfl rfl⟩
set_option maxRecDepth 20000 in
theorem lk_X7_310 : LkV RX7 310 yX7_takes cX7_takes 4 (some .boolean) 3 := ⟨⟨mem_tb 1310 rfl rfl, mem_tb 1307 rfl rfl, mem_tb 95 rfl rfl, by decide +kernel⟩, mem_tb 1309 rfl rfl, mem_tb 79 rfl rfl⟩
set_option maxRecDepth 20000 in
theorem lk_X7_323 : LkV RX7 323 yX7_readsItem cX7_readsItem 1 (some .boolean) 0 := ⟨⟨mem_tb 1314 rfl rfl, mem_tb 1311 rfl rfl, mem_tb 95 rfl rfl, by decide +kernel⟩, mem_tb 1313 rfl rfl, mem_tb 80 rfl rfl⟩
set_option maxRecDepth 20000 in
theorem lk_X7_313 : LkV RX7 313 yX7_readsHand cX7_readsHand 1 (some .boolean) 0 := ⟨⟨mem_tb 1318 rfl rfl, mem_tb 1315 rfl rfl, mem_tb 95 rfl rfl, by decide +kernel⟩, mem_tb 1317 rfl rfl, mem_tb 81 rfl rfl⟩
set_option maxRecDepth 20000 in
theorem lk_X7_317 : LkV RX7 317 yX7_readsNote cX7_readsNote 1 (some .boolean) 0 := ⟨⟨mem_tb 1322 rfl rfl, mem_tb 1319 rfl rfl, mem_tb 95 rfl rfl, by decide +kernel⟩, mem_tb 1321 rfl rfl, mem_tb 82 rfl rfl⟩
set_option maxRecDepth 20000 in
theorem lk_L_128 : LkV RL 128 yX7_part cX7_part 2 (some .long) 1 := ⟨⟨mem_tb 1326 rfl rfl, mem_tb 1323 rfl rfl, mem_tb 95 rfl rfl, by decide +kernel⟩, mem_tb 1324 rfl rfl, mem_tb 1325 rfl rfl⟩
set_option maxRecDepth 20000 in
theorem lk_L_132 : LkV RL 132 yX7_image cX7_image 3 (some .int) 1 := ⟨⟨mem_tb 1330 rfl rfl, mem_tb 1327 rfl rfl, mem_tb 95 rfl rfl, by decide +kernel⟩, mem_tb 1328 rfl rfl, mem_tb 1329 rfl rfl⟩
set_option maxRecDepth 20000 in
theorem lk_L_136 : LkV RL 136 yX7_from cX7_from 3 (some .int) 1 := ⟨⟨mem_tb 1334 rfl rfl, mem_tb 1331 rfl rfl, mem_tb 95 rfl rfl, by decide +kernel⟩, mem_tb 1332 rfl rfl, mem_tb 1333 rfl rfl⟩
set_option maxRecDepth 20000 in
theorem lk_L_140 : LkV RL 140 yX7_status cX7_status 2 (some .int) 1 := ⟨⟨mem_tb 1338 rfl rfl, mem_tb 1335 rfl rfl, mem_tb 95 rfl rfl, by decide +kernel⟩, mem_tb 1336 rfl rfl, mem_tb 1337 rfl rfl⟩
set_option maxRecDepth 20000 in
theorem lk_L_144 : LkV RL 144 yX7_count cX7_count 2 (some .int) 1 := ⟨⟨mem_tb 1342 rfl rfl, mem_tb 1339 rfl rfl, mem_tb 95 rfl rfl, by decide +kernel⟩, mem_tb 1340 rfl rfl, mem_tb 1341 rfl rfl⟩
set_option maxRecDepth 20000 in
theorem lk_X7_329 : LkV RX7 329 yX7_counted cX7_counted 2 (some .int) 1 := ⟨⟨mem_tb 1346 rfl rfl, mem_tb 1343 rfl rfl, mem_tb 95 rfl rfl, by decide +kernel⟩, mem_tb 1345 rfl rfl, mem_tb 83 rfl rfl⟩
set_option maxRecDepth 20000 in
theorem lk_X7_326 : LkV RX7 326 yX7_played cX7_played 3 (some .int) 0 := ⟨⟨mem_tb 1350 rfl rfl, mem_tb 1347 rfl rfl, mem_tb 95 rfl rfl, by decide +kernel⟩, mem_tb 1349 rfl rfl, mem_tb 84 rfl rfl⟩
set_option maxRecDepth 20000 in
theorem lk_L_148 : LkV RL 148 yX7_digest cX7_digest 4 (some .long) 0 := ⟨⟨mem_tb 1354 rfl rfl, mem_tb 1351 rfl rfl, mem_tb 95 rfl rfl, by decide +kernel⟩, mem_tb 1352 rfl rfl, mem_tb 1353 rfl rfl⟩
set_option maxRecDepth 20000 in
theorem lk_X7_336 : LkV RX7 336 yX7_sums cX7_sums 8 (some .long) 3 := ⟨⟨mem_tb 1360 rfl rfl, mem_tb 1357 rfl rfl, mem_tb 95 rfl rfl, by decide +kernel⟩, mem_tb 1359 rfl rfl, mem_tb 85 rfl rfl⟩
