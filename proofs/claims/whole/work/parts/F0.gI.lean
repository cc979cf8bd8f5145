/-! the two objects are made -/
def im0 : sm_M := (fun _ _ => 0, fun _ _ => 0, fun _ _ => none, fun _ => 100, fun _ => 0, 0)
def im1 : sm_M := sm_nw im0 9 0
def im2 : sm_M := sm_nw im1 15 6
def im3 : sm_M := sm_wR im2 0 0 (some (sm_top im1.2.2))
def im4 : sm_M := sm_nw im3 15 6
def im5 : sm_M := sm_wR im4 0 1 (some (sm_top im3.2.2))
def im6 : sm_M := sm_nw im5 6 0
def im7 : sm_M := sm_wI im6 (sm_top im5.2.2) 1 1
def im8 : sm_M := sm_wI im7 (sm_top im5.2.2) 2 1
def im9 : sm_M := sm_wI im8 (sm_top im5.2.2) 3 0
def im10 : sm_M := sm_wI im9 (sm_top im5.2.2) 4 1
def im11 : sm_M := sm_wI im10 (sm_top im5.2.2) 5 0
def im12 : sm_M := sm_wI im11 (sm_top im5.2.2) 6 1
def im13 : sm_M := sm_wI im12 (sm_top im5.2.2) 7 1
def im14 : sm_M := sm_wI im13 (sm_top im5.2.2) 8 1
def im15 : sm_M := sm_wI im14 (sm_top im5.2.2) 9 0
def im16 : sm_M := sm_wI im15 (sm_top im5.2.2) 10 1
def im17 : sm_M := sm_nw im16 11 ((60 : Int32).toNatClampNeg)
def im18 : sm_M := sm_wR im17 (sm_top im5.2.2) 0 (some (sm_top im16.2.2))
def im19 : sm_M := sm_wR im18 0 2 (some (sm_top im5.2.2))
def im20 : sm_M := sm_nw im19 3 0
def im21 : sm_M := sm_nw im20 11 24
def im22 : sm_M := sm_wR im21 (sm_top im19.2.2) 0 (some (sm_top im20.2.2))
def im23 : sm_M := sm_nw im22 11 24
def im24 : sm_M := sm_wR im23 (sm_top im19.2.2) 1 (some (sm_top im22.2.2))
def im25 : sm_M := sm_nw im24 11 24
def im26 : sm_M := sm_wR im25 (sm_top im19.2.2) 2 (some (sm_top im24.2.2))
def im27 : sm_M := sm_nw im26 13 24
def im28 : sm_M := sm_wR im27 (sm_top im19.2.2) 3 (some (sm_top im26.2.2))
def im29 : sm_M := sm_wR im28 0 3 (some (sm_top im19.2.2))
def im30 : sm_M := sm_nw im29 7 0
def im31 : sm_M := sm_nw im30 11 100
def im32 : sm_M := sm_wR im31 (sm_top im29.2.2) 0 (some (sm_top im30.2.2))
def im33 : sm_M := sm_nw im32 11 100
def im34 : sm_M := sm_wR im33 (sm_top im29.2.2) 1 (some (sm_top im32.2.2))
def im35 : sm_M := sm_nw im34 11 100
def im36 : sm_M := sm_wR im35 (sm_top im29.2.2) 2 (some (sm_top im34.2.2))
def im37 : sm_M := sm_nw im36 6 0
def im38 : sm_M := sm_wI im37 (sm_top im36.2.2) 1 1
def im39 : sm_M := sm_wI im38 (sm_top im36.2.2) 2 1
def im40 : sm_M := sm_wI im39 (sm_top im36.2.2) 3 0
def im41 : sm_M := sm_wI im40 (sm_top im36.2.2) 4 1
def im42 : sm_M := sm_wI im41 (sm_top im36.2.2) 5 0
def im43 : sm_M := sm_wI im42 (sm_top im36.2.2) 6 1
def im44 : sm_M := sm_wI im43 (sm_top im36.2.2) 7 1
def im45 : sm_M := sm_wI im44 (sm_top im36.2.2) 8 1
def im46 : sm_M := sm_wI im45 (sm_top im36.2.2) 9 0
def im47 : sm_M := sm_wI im46 (sm_top im36.2.2) 10 1
def im48 : sm_M := sm_nw im47 11 ((100 : Int32).toNatClampNeg)
def im49 : sm_M := sm_wR im48 (sm_top im36.2.2) 0 (some (sm_top im47.2.2))
def im50 : sm_M := sm_wR im49 (sm_top im29.2.2) 3 (some (sm_top im36.2.2))
def im51 : sm_M := sm_wI im50 (sm_top im29.2.2) 4 0
def im52 : sm_M := sm_wI im51 (sm_top im29.2.2) 5 0
def im53 : sm_M := sm_wI im52 (sm_top im29.2.2) 6 0
def im54 : sm_M := sm_wI im53 (sm_top im29.2.2) 7 0
def im55 : sm_M := sm_wR im54 0 4 (some (sm_top im29.2.2))
def im56 : sm_M := sm_nw im55 2 0
def im57 : sm_M := sm_nw im56 11 48
def im58 : sm_M := sm_wR im57 (sm_top im55.2.2) 0 (some (sm_top im56.2.2))
def im59 : sm_M := sm_nw im58 11 192
def im60 : sm_M := sm_wR im59 (sm_top im55.2.2) 1 (some (sm_top im58.2.2))
def im61 : sm_M := sm_nw im60 13 192
def im62 : sm_M := sm_wR im61 (sm_top im55.2.2) 2 (some (sm_top im60.2.2))
def im63 : sm_M := sm_nw im62 11 96
def im64 : sm_M := sm_wR im63 (sm_top im55.2.2) 3 (some (sm_top im62.2.2))
def im65 : sm_M := sm_nw im64 11 24
def im66 : sm_M := sm_wR im65 (sm_top im55.2.2) 4 (some (sm_top im64.2.2))
def im67 : sm_M := sm_nw im66 13 24
def im68 : sm_M := sm_wR im67 (sm_top im55.2.2) 5 (some (sm_top im66.2.2))
def im69 : sm_M := sm_nw im68 11 48
def im70 : sm_M := sm_wR im69 (sm_top im55.2.2) 6 (some (sm_top im68.2.2))
def im71 : sm_M := sm_nw im70 11 49
def im72 : sm_M := sm_wR im71 (sm_top im55.2.2) 7 (some (sm_top im70.2.2))
def im73 : sm_M := sm_nw im72 11 48
def im74 : sm_M := sm_wR im73 (sm_top im55.2.2) 8 (some (sm_top im72.2.2))
def im75 : sm_M := sm_nw im74 13 48
def im76 : sm_M := sm_wR im75 (sm_top im55.2.2) 9 (some (sm_top im74.2.2))
def im77 : sm_M := sm_wR im76 0 5 (some (sm_top im55.2.2))
def im78 : sm_M := sm_nw im77 1 0
def im79 : sm_M := sm_nwm im78 24 48
def im80 : sm_M := sm_wR im79 (sm_top im77.2.2) 0 (some (sm_top im78.2.2))
def im81 : sm_M := sm_wR im80 0 6 (some (sm_top im77.2.2))
def im82 : sm_M := sm_nw im81 8 0
def im83 : sm_M := sm_nwm im82 13 12
def im84 : sm_M := sm_wR im83 (sm_top im81.2.2) 0 (some (sm_top im82.2.2))
def im85 : sm_M := sm_wR im84 0 7 (some (sm_top im81.2.2))
def im86 : sm_M := sm_nw im85 4 0
def im87 : sm_M := sm_nw im86 16 13
def im88 : sm_M := sm_wR im87 (sm_top im85.2.2) 0 (some (sm_top im86.2.2))
def im89 : sm_M := sm_wR im88 0 8 (some (sm_top im85.2.2))
def im90 : sm_M := sm_nw im89 0 0
def im91 : sm_M := sm_nw im90 12 40
def im92 : sm_M := sm_wR im91 (sm_top im89.2.2) 0 (some (sm_top im90.2.2))
def im93 : sm_M := sm_nw im92 11 40
def im94 : sm_M := sm_wR im93 (sm_top im89.2.2) 1 (some (sm_top im92.2.2))
def im95 : sm_M := sm_wI im94 (sm_top im89.2.2) 2 0
def im96 : sm_M := sm_wI im95 (sm_top im89.2.2) 3 0
def im97 : sm_M := sm_wR im96 0 9 (some (sm_top im89.2.2))
def im98 : sm_M := sm_nw im97 14 4
def im99 : sm_M := sm_wR im98 0 10 (some (sm_top im97.2.2))
def im100 : sm_M := sm_nw im99 5 0
def im101 : sm_M := sm_nw im100 12 48
def im102 : sm_M := sm_wR im101 (sm_top im99.2.2) 0 (some (sm_top im100.2.2))
def im103 : sm_M := sm_wI im102 (sm_top im99.2.2) 1 0
def im104 : sm_M := sm_wI im103 (sm_top im99.2.2) 2 0
def im105 : sm_M := sm_wJ im104 (sm_top im99.2.2) 3 0
def im106 : sm_M := sm_wJ im105 (sm_top im99.2.2) 4 1
def im107 : sm_M := sm_wR im106 0 11 (some (sm_top im99.2.2))
def im108 : sm_M := sm_nw im107 11 7
def im109 : sm_M := sm_wR im108 0 12 (some (sm_top im107.2.2))
def im110 : sm_M := sm_wI im109 0 13 1
def im111 : sm_M := sm_wI im110 0 14 1
def im112 : sm_M := sm_wI im111 0 15 0
def im113 : sm_M := sm_nw im112 6 0
def im114 : sm_M := sm_wI im113 (sm_top im112.2.2) 1 1
def im115 : sm_M := sm_wI im114 (sm_top im112.2.2) 2 1
def im116 : sm_M := sm_wI im115 (sm_top im112.2.2) 3 0
def im117 : sm_M := sm_wI im116 (sm_top im112.2.2) 4 1
def im118 : sm_M := sm_wI im117 (sm_top im112.2.2) 5 0
def im119 : sm_M := sm_wI im118 (sm_top im112.2.2) 6 1
def im120 : sm_M := sm_wI im119 (sm_top im112.2.2) 7 1
def im121 : sm_M := sm_wI im120 (sm_top im112.2.2) 8 1
def im122 : sm_M := sm_wI im121 (sm_top im112.2.2) 9 0
def im123 : sm_M := sm_wI im122 (sm_top im112.2.2) 10 1
def im124 : sm_M := sm_nw im123 11 ((60 : Int32).toNatClampNeg)
def im125 : sm_M := sm_wR im124 (sm_top im112.2.2) 0 (some (sm_top im123.2.2))
def im126 : sm_M := sm_wR im125 1 (0 : Int32).toNatClampNeg (some (sm_top im112.2.2))
def im127 : sm_M := sm_nw im126 6 0
def im128 : sm_M := sm_wI im127 (sm_top im126.2.2) 1 1
def im129 : sm_M := sm_wI im128 (sm_top im126.2.2) 2 1
def im130 : sm_M := sm_wI im129 (sm_top im126.2.2) 3 0
def im131 : sm_M := sm_wI im130 (sm_top im126.2.2) 4 1
def im132 : sm_M := sm_wI im131 (sm_top im126.2.2) 5 0
def im133 : sm_M := sm_wI im132 (sm_top im126.2.2) 6 1
def im134 : sm_M := sm_wI im133 (sm_top im126.2.2) 7 1
def im135 : sm_M := sm_wI im134 (sm_top im126.2.2) 8 1
def im136 : sm_M := sm_wI im135 (sm_top im126.2.2) 9 0
def im137 : sm_M := sm_wI im136 (sm_top im126.2.2) 10 1
def im138 : sm_M := sm_nw im137 11 ((60 : Int32).toNatClampNeg)
def im139 : sm_M := sm_wR im138 (sm_top im126.2.2) 0 (some (sm_top im137.2.2))
def im140 : sm_M := sm_wR im139 2 (0 : Int32).toNatClampNeg (some (sm_top im126.2.2))
def im141 : sm_M := sm_nw im140 6 0
def im142 : sm_M := sm_wI im141 (sm_top im140.2.2) 1 1
def im143 : sm_M := sm_wI im142 (sm_top im140.2.2) 2 1
def im144 : sm_M := sm_wI im143 (sm_top im140.2.2) 3 0
def im145 : sm_M := sm_wI im144 (sm_top im140.2.2) 4 1
def im146 : sm_M := sm_wI im145 (sm_top im140.2.2) 5 0
def im147 : sm_M := sm_wI im146 (sm_top im140.2.2) 6 1
def im148 : sm_M := sm_wI im147 (sm_top im140.2.2) 7 1
def im149 : sm_M := sm_wI im148 (sm_top im140.2.2) 8 1
def im150 : sm_M := sm_wI im149 (sm_top im140.2.2) 9 0
def im151 : sm_M := sm_wI im150 (sm_top im140.2.2) 10 1
def im152 : sm_M := sm_nw im151 11 ((60 : Int32).toNatClampNeg)
def im153 : sm_M := sm_wR im152 (sm_top im140.2.2) 0 (some (sm_top im151.2.2))
def im154 : sm_M := sm_wR im153 1 (1 : Int32).toNatClampNeg (some (sm_top im140.2.2))
def im155 : sm_M := sm_nw im154 6 0
def im156 : sm_M := sm_wI im155 (sm_top im154.2.2) 1 1
def im157 : sm_M := sm_wI im156 (sm_top im154.2.2) 2 1
def im158 : sm_M := sm_wI im157 (sm_top im154.2.2) 3 0
def im159 : sm_M := sm_wI im158 (sm_top im154.2.2) 4 1
def im160 : sm_M := sm_wI im159 (sm_top im154.2.2) 5 0
def im161 : sm_M := sm_wI im160 (sm_top im154.2.2) 6 1
def im162 : sm_M := sm_wI im161 (sm_top im154.2.2) 7 1
def im163 : sm_M := sm_wI im162 (sm_top im154.2.2) 8 1
def im164 : sm_M := sm_wI im163 (sm_top im154.2.2) 9 0
def im165 : sm_M := sm_wI im164 (sm_top im154.2.2) 10 1
def im166 : sm_M := sm_nw im165 11 ((60 : Int32).toNatClampNeg)
def im167 : sm_M := sm_wR im166 (sm_top im154.2.2) 0 (some (sm_top im165.2.2))
def im168 : sm_M := sm_wR im167 2 (1 : Int32).toNatClampNeg (some (sm_top im154.2.2))
def im169 : sm_M := sm_nw im168 6 0
def im170 : sm_M := sm_wI im169 (sm_top im168.2.2) 1 1
def im171 : sm_M := sm_wI im170 (sm_top im168.2.2) 2 1
def im172 : sm_M := sm_wI im171 (sm_top im168.2.2) 3 0
def im173 : sm_M := sm_wI im172 (sm_top im168.2.2) 4 1
def im174 : sm_M := sm_wI im173 (sm_top im168.2.2) 5 0
def im175 : sm_M := sm_wI im174 (sm_top im168.2.2) 6 1
def im176 : sm_M := sm_wI im175 (sm_top im168.2.2) 7 1
def im177 : sm_M := sm_wI im176 (sm_top im168.2.2) 8 1
def im178 : sm_M := sm_wI im177 (sm_top im168.2.2) 9 0
def im179 : sm_M := sm_wI im178 (sm_top im168.2.2) 10 1
def im180 : sm_M := sm_nw im179 11 ((60 : Int32).toNatClampNeg)
def im181 : sm_M := sm_wR im180 (sm_top im168.2.2) 0 (some (sm_top im179.2.2))
def im182 : sm_M := sm_wR im181 1 (2 : Int32).toNatClampNeg (some (sm_top im168.2.2))
def im183 : sm_M := sm_nw im182 6 0
def im184 : sm_M := sm_wI im183 (sm_top im182.2.2) 1 1
def im185 : sm_M := sm_wI im184 (sm_top im182.2.2) 2 1
def im186 : sm_M := sm_wI im185 (sm_top im182.2.2) 3 0
def im187 : sm_M := sm_wI im186 (sm_top im182.2.2) 4 1
def im188 : sm_M := sm_wI im187 (sm_top im182.2.2) 5 0
def im189 : sm_M := sm_wI im188 (sm_top im182.2.2) 6 1
def im190 : sm_M := sm_wI im189 (sm_top im182.2.2) 7 1
def im191 : sm_M := sm_wI im190 (sm_top im182.2.2) 8 1
def im192 : sm_M := sm_wI im191 (sm_top im182.2.2) 9 0
def im193 : sm_M := sm_wI im192 (sm_top im182.2.2) 10 1
def im194 : sm_M := sm_nw im193 11 ((60 : Int32).toNatClampNeg)
def im195 : sm_M := sm_wR im194 (sm_top im182.2.2) 0 (some (sm_top im193.2.2))
def im196 : sm_M := sm_wR im195 2 (2 : Int32).toNatClampNeg (some (sm_top im182.2.2))
def im197 : sm_M := sm_nw im196 6 0
def im198 : sm_M := sm_wI im197 (sm_top im196.2.2) 1 1
def im199 : sm_M := sm_wI im198 (sm_top im196.2.2) 2 1
def im200 : sm_M := sm_wI im199 (sm_top im196.2.2) 3 0
def im201 : sm_M := sm_wI im200 (sm_top im196.2.2) 4 1
def im202 : sm_M := sm_wI im201 (sm_top im196.2.2) 5 0
def im203 : sm_M := sm_wI im202 (sm_top im196.2.2) 6 1
def im204 : sm_M := sm_wI im203 (sm_top im196.2.2) 7 1
def im205 : sm_M := sm_wI im204 (sm_top im196.2.2) 8 1
def im206 : sm_M := sm_wI im205 (sm_top im196.2.2) 9 0
def im207 : sm_M := sm_wI im206 (sm_top im196.2.2) 10 1
def im208 : sm_M := sm_nw im207 11 ((60 : Int32).toNatClampNeg)
def im209 : sm_M := sm_wR im208 (sm_top im196.2.2) 0 (some (sm_top im207.2.2))
def im210 : sm_M := sm_wR im209 1 (3 : Int32).toNatClampNeg (some (sm_top im196.2.2))
def im211 : sm_M := sm_nw im210 6 0
def im212 : sm_M := sm_wI im211 (sm_top im210.2.2) 1 1
def im213 : sm_M := sm_wI im212 (sm_top im210.2.2) 2 1
def im214 : sm_M := sm_wI im213 (sm_top im210.2.2) 3 0
def im215 : sm_M := sm_wI im214 (sm_top im210.2.2) 4 1
def im216 : sm_M := sm_wI im215 (sm_top im210.2.2) 5 0
def im217 : sm_M := sm_wI im216 (sm_top im210.2.2) 6 1
def im218 : sm_M := sm_wI im217 (sm_top im210.2.2) 7 1
def im219 : sm_M := sm_wI im218 (sm_top im210.2.2) 8 1
def im220 : sm_M := sm_wI im219 (sm_top im210.2.2) 9 0
def im221 : sm_M := sm_wI im220 (sm_top im210.2.2) 10 1
def im222 : sm_M := sm_nw im221 11 ((60 : Int32).toNatClampNeg)
def im223 : sm_M := sm_wR im222 (sm_top im210.2.2) 0 (some (sm_top im221.2.2))
def im224 : sm_M := sm_wR im223 2 (3 : Int32).toNatClampNeg (some (sm_top im210.2.2))
def im225 : sm_M := sm_nw im224 6 0
def im226 : sm_M := sm_wI im225 (sm_top im224.2.2) 1 1
def im227 : sm_M := sm_wI im226 (sm_top im224.2.2) 2 1
def im228 : sm_M := sm_wI im227 (sm_top im224.2.2) 3 0
def im229 : sm_M := sm_wI im228 (sm_top im224.2.2) 4 1
def im230 : sm_M := sm_wI im229 (sm_top im224.2.2) 5 0
def im231 : sm_M := sm_wI im230 (sm_top im224.2.2) 6 1
def im232 : sm_M := sm_wI im231 (sm_top im224.2.2) 7 1
def im233 : sm_M := sm_wI im232 (sm_top im224.2.2) 8 1
def im234 : sm_M := sm_wI im233 (sm_top im224.2.2) 9 0
def im235 : sm_M := sm_wI im234 (sm_top im224.2.2) 10 1
def im236 : sm_M := sm_nw im235 11 ((60 : Int32).toNatClampNeg)
def im237 : sm_M := sm_wR im236 (sm_top im224.2.2) 0 (some (sm_top im235.2.2))
def im238 : sm_M := sm_wR im237 1 (4 : Int32).toNatClampNeg (some (sm_top im224.2.2))
def im239 : sm_M := sm_nw im238 6 0
def im240 : sm_M := sm_wI im239 (sm_top im238.2.2) 1 1
def im241 : sm_M := sm_wI im240 (sm_top im238.2.2) 2 1
def im242 : sm_M := sm_wI im241 (sm_top im238.2.2) 3 0
def im243 : sm_M := sm_wI im242 (sm_top im238.2.2) 4 1
def im244 : sm_M := sm_wI im243 (sm_top im238.2.2) 5 0
def im245 : sm_M := sm_wI im244 (sm_top im238.2.2) 6 1
def im246 : sm_M := sm_wI im245 (sm_top im238.2.2) 7 1
def im247 : sm_M := sm_wI im246 (sm_top im238.2.2) 8 1
def im248 : sm_M := sm_wI im247 (sm_top im238.2.2) 9 0
def im249 : sm_M := sm_wI im248 (sm_top im238.2.2) 10 1
def im250 : sm_M := sm_nw im249 11 ((60 : Int32).toNatClampNeg)
def im251 : sm_M := sm_wR im250 (sm_top im238.2.2) 0 (some (sm_top im249.2.2))
def im252 : sm_M := sm_wR im251 2 (4 : Int32).toNatClampNeg (some (sm_top im238.2.2))
def im253 : sm_M := sm_nw im252 6 0
def im254 : sm_M := sm_wI im253 (sm_top im252.2.2) 1 1
def im255 : sm_M := sm_wI im254 (sm_top im252.2.2) 2 1
def im256 : sm_M := sm_wI im255 (sm_top im252.2.2) 3 0
def im257 : sm_M := sm_wI im256 (sm_top im252.2.2) 4 1
def im258 : sm_M := sm_wI im257 (sm_top im252.2.2) 5 0
def im259 : sm_M := sm_wI im258 (sm_top im252.2.2) 6 1
def im260 : sm_M := sm_wI im259 (sm_top im252.2.2) 7 1
def im261 : sm_M := sm_wI im260 (sm_top im252.2.2) 8 1
def im262 : sm_M := sm_wI im261 (sm_top im252.2.2) 9 0
def im263 : sm_M := sm_wI im262 (sm_top im252.2.2) 10 1
def im264 : sm_M := sm_nw im263 11 ((60 : Int32).toNatClampNeg)
def im265 : sm_M := sm_wR im264 (sm_top im252.2.2) 0 (some (sm_top im263.2.2))
def im266 : sm_M := sm_wR im265 1 (5 : Int32).toNatClampNeg (some (sm_top im252.2.2))
def im267 : sm_M := sm_nw im266 6 0
def im268 : sm_M := sm_wI im267 (sm_top im266.2.2) 1 1
def im269 : sm_M := sm_wI im268 (sm_top im266.2.2) 2 1
def im270 : sm_M := sm_wI im269 (sm_top im266.2.2) 3 0
def im271 : sm_M := sm_wI im270 (sm_top im266.2.2) 4 1
def im272 : sm_M := sm_wI im271 (sm_top im266.2.2) 5 0
def im273 : sm_M := sm_wI im272 (sm_top im266.2.2) 6 1
def im274 : sm_M := sm_wI im273 (sm_top im266.2.2) 7 1
def im275 : sm_M := sm_wI im274 (sm_top im266.2.2) 8 1
def im276 : sm_M := sm_wI im275 (sm_top im266.2.2) 9 0
def im277 : sm_M := sm_wI im276 (sm_top im266.2.2) 10 1
def im278 : sm_M := sm_nw im277 11 ((60 : Int32).toNatClampNeg)
def im279 : sm_M := sm_wR im278 (sm_top im266.2.2) 0 (some (sm_top im277.2.2))
def im280 : sm_M := sm_wR im279 2 (5 : Int32).toNatClampNeg (some (sm_top im266.2.2))
def im281 : sm_M := sm_nw im280 5 0
def im282 : sm_M := sm_nw im281 12 48
def im283 : sm_M := sm_wR im282 (sm_top im280.2.2) 0 (some (sm_top im281.2.2))
def im284 : sm_M := sm_wI im283 (sm_top im280.2.2) 1 0
def im285 : sm_M := sm_wI im284 (sm_top im280.2.2) 2 0
def im286 : sm_M := sm_wJ im285 (sm_top im280.2.2) 3 0
def im287 : sm_M := sm_wJ im286 (sm_top im280.2.2) 4 1
def im288 : sm_M := sm_wR im287 73 (0 : Int32).toNatClampNeg (some (sm_top im280.2.2))
def im289 : sm_M := sm_nw im288 5 0
def im290 : sm_M := sm_nw im289 12 48
def im291 : sm_M := sm_wR im290 (sm_top im288.2.2) 0 (some (sm_top im289.2.2))
def im292 : sm_M := sm_wI im291 (sm_top im288.2.2) 1 0
def im293 : sm_M := sm_wI im292 (sm_top im288.2.2) 2 0
def im294 : sm_M := sm_wJ im293 (sm_top im288.2.2) 3 0
def im295 : sm_M := sm_wJ im294 (sm_top im288.2.2) 4 1
def im296 : sm_M := sm_wR im295 73 (1 : Int32).toNatClampNeg (some (sm_top im288.2.2))
def im297 : sm_M := sm_nw im296 5 0
def im298 : sm_M := sm_nw im297 12 48
def im299 : sm_M := sm_wR im298 (sm_top im296.2.2) 0 (some (sm_top im297.2.2))
def im300 : sm_M := sm_wI im299 (sm_top im296.2.2) 1 0
def im301 : sm_M := sm_wI im300 (sm_top im296.2.2) 2 0
def im302 : sm_M := sm_wJ im301 (sm_top im296.2.2) 3 0
def im303 : sm_M := sm_wJ im302 (sm_top im296.2.2) 4 1
def im304 : sm_M := sm_wR im303 73 (2 : Int32).toNatClampNeg (some (sm_top im296.2.2))
def im305 : sm_M := sm_nw im304 5 0
def im306 : sm_M := sm_nw im305 12 48
def im307 : sm_M := sm_wR im306 (sm_top im304.2.2) 0 (some (sm_top im305.2.2))
def im308 : sm_M := sm_wI im307 (sm_top im304.2.2) 1 0
def im309 : sm_M := sm_wI im308 (sm_top im304.2.2) 2 0
def im310 : sm_M := sm_wJ im309 (sm_top im304.2.2) 3 0
def im311 : sm_M := sm_wJ im310 (sm_top im304.2.2) 4 1
def im312 : sm_M := sm_wR im311 73 (3 : Int32).toNatClampNeg (some (sm_top im304.2.2))
def im313 : sm_M := sm_nw im312 10 0
def im314 : sm_M := sm_nw im313 11 7
def im315 : sm_M := sm_wR im314 109 0 (some (sm_top im313.2.2))
def im316 : sm_M := sm_nw im315 11 360
def im317 : sm_M := sm_wR im316 109 1 (some (sm_top im315.2.2))
def im318 : sm_M := sm_nw im317 11 6
def im319 : sm_M := sm_wR im318 109 2 (some (sm_top im317.2.2))
def im320 : sm_M := sm_nw im319 11 360
def im321 : sm_M := sm_wR im320 109 3 (some (sm_top im319.2.2))
def im322 : sm_M := sm_nw im321 11 6
def im323 : sm_M := sm_wR im322 109 4 (some (sm_top im321.2.2))
def im324 : sm_M := sm_nw im323 11 200
def im325 : sm_M := sm_wR im324 109 5 (some (sm_top im323.2.2))
def im326 : sm_M := sm_wI im325 109 7 1
def im327 : sm_M := sm_nw im326 11 100
def im328 : sm_M := sm_wR im327 109 10 (some (sm_top im326.2.2))
def im329 : sm_M := sm_nw im328 11 40
def im330 : sm_M := sm_wR im329 109 12 (some (sm_top im328.2.2))
def im331 : sm_M := sm_nw im330 11 40
def im332 : sm_M := sm_wR im331 109 13 (some (sm_top im330.2.2))
def im333 : sm_M := sm_nw im332 11 40
def im334 : sm_M := sm_wR im333 109 14 (some (sm_top im332.2.2))
def im335 : sm_M := sm_nw im334 12 192
def im336 : sm_M := sm_wR im335 109 16 (some (sm_top im334.2.2))
def im337 : sm_M := sm_nw im336 11 4
def im338 : sm_M := sm_wR im337 109 17 (some (sm_top im336.2.2))
def im339 : sm_M := sm_nw im338 11 4
def im340 : sm_M := sm_wR im339 109 18 (some (sm_top im338.2.2))
def im341 : sm_M := sm_nw im340 12 200
def im342 : sm_M := sm_wR im341 109 19 (some (sm_top im340.2.2))
def im343 : sm_M := sm_nw im342 12 200
def im344 : sm_M := sm_wR im343 109 20 (some (sm_top im342.2.2))
def im345 : sm_M := sm_nw im344 13 200
def im346 : sm_M := sm_wR im345 109 21 (some (sm_top im344.2.2))
def im347 : sm_M := sm_nw im346 11 200
def im348 : sm_M := sm_wR im347 109 22 (some (sm_top im346.2.2))
def im349 : sm_M := sm_nw im348 12 64
def im350 : sm_M := sm_wR im349 109 35 (some (sm_top im348.2.2))
def im351 : sm_M := sm_nw im350 11 192
def im352 : sm_M := sm_wR im351 109 37 (some (sm_top im350.2.2))
def im353 : sm_M := sm_nw im352 11 192
def im354 : sm_M := sm_wR im353 109 38 (some (sm_top im352.2.2))
def im355 : sm_M := sm_nw im354 11 24
def im356 : sm_M := sm_wR im355 109 39 (some (sm_top im354.2.2))
def im357 : sm_M := sm_nw im356 11 64
def im358 : sm_M := sm_wR im357 109 40 (some (sm_top im356.2.2))
def im359 : sm_M := sm_nw im358 11 64
def im360 : sm_M := sm_wR im359 109 41 (some (sm_top im358.2.2))
def im361 : sm_M := sm_nw im360 11 64
def im362 : sm_M := sm_wR im361 109 42 (some (sm_top im360.2.2))
def im363 : sm_M := sm_nw im362 11 64
def im364 : sm_M := sm_wR im363 109 43 (some (sm_top im362.2.2))
def im365 : sm_M := sm_nw im364 11 64
def im366 : sm_M := sm_wR im365 109 44 (some (sm_top im364.2.2))
def im367 : sm_M := sm_nw im366 11 48
def im368 : sm_M := sm_wR im367 109 47 (some (sm_top im366.2.2))
def im369 : sm_M := sm_nw im368 11 48
def im370 : sm_M := sm_wR im369 109 48 (some (sm_top im368.2.2))
def im371 : sm_M := sm_nw im370 11 48
def im372 : sm_M := sm_wR im371 109 49 (some (sm_top im370.2.2))
def im373 : sm_M := sm_nw im372 11 50
def im374 : sm_M := sm_wR im373 109 50 (some (sm_top im372.2.2))
def im375 : sm_M := sm_nw im374 13 192
def im376 : sm_M := sm_wR im375 109 51 (some (sm_top im374.2.2))
def im377 : sm_M := sm_nw im376 11 24
def im378 : sm_M := sm_wR im377 109 55 (some (sm_top im376.2.2))
def im379 : sm_M := sm_nw im378 11 24
def im380 : sm_M := sm_wR im379 109 56 (some (sm_top im378.2.2))
def im381 : sm_M := sm_nw im380 11 24
def im382 : sm_M := sm_wR im381 109 57 (some (sm_top im380.2.2))
def im383 : sm_M := sm_nw im382 11 1920
def im384 : sm_M := sm_wR im383 109 59 (some (sm_top im382.2.2))
def im385 : sm_M := sm_nw im384 12 160
def im386 : sm_M := sm_wR im385 109 62 (some (sm_top im384.2.2))
def im387 : sm_M := sm_nw im386 11 10
def im388 : sm_M := sm_wR im387 109 63 (some (sm_top im386.2.2))
def im389 : sm_M := sm_nw im388 12 48
def im390 : sm_M := sm_wR im389 109 65 (some (sm_top im388.2.2))
def im391 : sm_M := sm_nw im390 12 64
def im392 : sm_M := sm_wR im391 109 66 (some (sm_top im390.2.2))
def im393 : sm_M := sm_wI im392 112 (0 : Int32).toNatClampNeg 1
def im394 : sm_M := sm_wI im393 112 (1 : Int32).toNatClampNeg 1
def im395 : sm_M := sm_wI im394 112 (2 : Int32).toNatClampNeg 1
def im396 : sm_M := sm_wI im395 112 (3 : Int32).toNatClampNeg 1
def im397 : sm_M := sm_wI im396 112 (4 : Int32).toNatClampNeg 1
def im398 : sm_M := sm_wI im397 112 (5 : Int32).toNatClampNeg 1
theorem c_mx60 {E : sm_E} {m : sm_M} {Q : Int32 → sm_M → Prop} (h : Q 60 m) : sm_callI E sm_L0 mJ9_max_7cf53 1 0 0 [.int 60, .int 1] m Q := by
  have e : iI (max 60 1) = (60 : Int32) := by decide +kernel
  rw [← e] at h
  exact c_max (a := 60) (b := 1) (by decide) (by decide) (by decide) (by decide) (by decide) h
theorem c_mx100 {E : sm_E} {m : sm_M} {Q : Int32 → sm_M → Prop} (h : Q 100 m) : sm_callI E sm_L0 mJ9_max_7cf53 1 0 0 [.int 100, .int 1] m Q := by
  have e : iI (max 100 1) = (100 : Int32) := by decide +kernel
  rw [← e] at h
  exact c_max (a := 100) (b := 1) (by decide) (by decide) (by decide) (by decide) (by decide) h
set_option maxRecDepth 20000 in
set_option maxHeartbeats 4000000 in
theorem mk_X11 {E : sm_E} {d : Nat} {Q : sm_M → Prop} (hd : 4 ≤ d) (h : Q im312) : sm_callV E sm_L0 mX11_init d 108 4481 [.ref (sm_B E + 0)] im1 Q := by
  refine vX11_init_0 hd ?_
  intro m_ e_; obtain rfl : m_ = im2 := e_
  refine ⟨by decide +kernel, ?_⟩
  intro m_ e_; obtain rfl : m_ = im3 := e_
  intro m_ e_; obtain rfl : m_ = im4 := e_
  refine ⟨by decide +kernel, ?_⟩
  intro m_ e_; obtain rfl : m_ = im5 := e_
  intro m_ e_; obtain rfl : m_ = im6 := e_
  refine vX8_init_0 (by decide) ?_
  refine ⟨by decide +kernel, ?_⟩
  intro m_ e_; obtain rfl : m_ = im7 := e_
  refine ⟨by decide +kernel, ?_⟩
  intro m_ e_; obtain rfl : m_ = im8 := e_
  refine ⟨by decide +kernel, ?_⟩
  intro m_ e_; obtain rfl : m_ = im9 := e_
  refine ⟨by decide +kernel, ?_⟩
  intro m_ e_; obtain rfl : m_ = im10 := e_
  refine ⟨by decide +kernel, ?_⟩
  intro m_ e_; obtain rfl : m_ = im11 := e_
  refine ⟨by decide +kernel, ?_⟩
  intro m_ e_; obtain rfl : m_ = im12 := e_
  refine ⟨by decide +kernel, ?_⟩
  intro m_ e_; obtain rfl : m_ = im13 := e_
  refine ⟨by decide +kernel, ?_⟩
  intro m_ e_; obtain rfl : m_ = im14 := e_
  refine ⟨by decide +kernel, ?_⟩
  intro m_ e_; obtain rfl : m_ = im15 := e_
  refine ⟨by decide +kernel, ?_⟩
  intro m_ e_; obtain rfl : m_ = im16 := e_
  refine c_mx60 ?_
  refine ⟨by decide, ?_⟩
  refine ⟨by decide +kernel, ?_⟩
  refine ⟨by decide +kernel, ?_⟩
  intro m_ e_; obtain rfl : m_ = im17 := e_
  refine ⟨by decide +kernel, ?_⟩
  intro m_ e_; obtain rfl : m_ = im18 := e_
  refine ⟨by decide +kernel, ?_⟩
  refine ⟨by decide +kernel, ?_⟩
  intro m_ e_; obtain rfl : m_ = im19 := e_
  intro m_ e_; obtain rfl : m_ = im20 := e_
  refine vX4_init_0 (by decide) ?_
  intro m_ e_; obtain rfl : m_ = im21 := e_
  refine ⟨by decide +kernel, ?_⟩
  intro m_ e_; obtain rfl : m_ = im22 := e_
  intro m_ e_; obtain rfl : m_ = im23 := e_
  refine ⟨by decide +kernel, ?_⟩
  intro m_ e_; obtain rfl : m_ = im24 := e_
  intro m_ e_; obtain rfl : m_ = im25 := e_
  refine ⟨by decide +kernel, ?_⟩
  intro m_ e_; obtain rfl : m_ = im26 := e_
  intro m_ e_; obtain rfl : m_ = im27 := e_
  refine ⟨by decide +kernel, ?_⟩
  intro m_ e_; obtain rfl : m_ = im28 := e_
  refine ⟨by decide +kernel, ?_⟩
  intro m_ e_; obtain rfl : m_ = im29 := e_
  intro m_ e_; obtain rfl : m_ = im30 := e_
  refine vX9_init_0 (by decide) ?_
  intro m_ e_; obtain rfl : m_ = im31 := e_
  refine ⟨by decide +kernel, ?_⟩
  intro m_ e_; obtain rfl : m_ = im32 := e_
  intro m_ e_; obtain rfl : m_ = im33 := e_
  refine ⟨by decide +kernel, ?_⟩
  intro m_ e_; obtain rfl : m_ = im34 := e_
  intro m_ e_; obtain rfl : m_ = im35 := e_
  refine ⟨by decide +kernel, ?_⟩
  intro m_ e_; obtain rfl : m_ = im36 := e_
  intro m_ e_; obtain rfl : m_ = im37 := e_
  refine vX8_init_0 (by decide) ?_
  refine ⟨by decide +kernel, ?_⟩
  intro m_ e_; obtain rfl : m_ = im38 := e_
  refine ⟨by decide +kernel, ?_⟩
  intro m_ e_; obtain rfl : m_ = im39 := e_
  refine ⟨by decide +kernel, ?_⟩
  intro m_ e_; obtain rfl : m_ = im40 := e_
  refine ⟨by decide +kernel, ?_⟩
  intro m_ e_; obtain rfl : m_ = im41 := e_
  refine ⟨by decide +kernel, ?_⟩
  intro m_ e_; obtain rfl : m_ = im42 := e_
  refine ⟨by decide +kernel, ?_⟩
  intro m_ e_; obtain rfl : m_ = im43 := e_
  refine ⟨by decide +kernel, ?_⟩
  intro m_ e_; obtain rfl : m_ = im44 := e_
  refine ⟨by decide +kernel, ?_⟩
  intro m_ e_; obtain rfl : m_ = im45 := e_
  refine ⟨by decide +kernel, ?_⟩
  intro m_ e_; obtain rfl : m_ = im46 := e_
  refine ⟨by decide +kernel, ?_⟩
  intro m_ e_; obtain rfl : m_ = im47 := e_
  refine c_mx100 ?_
  refine ⟨by decide, ?_⟩
  refine ⟨by decide +kernel, ?_⟩
  refine ⟨by decide +kernel, ?_⟩
  intro m_ e_; obtain rfl : m_ = im48 := e_
  refine ⟨by decide +kernel, ?_⟩
  intro m_ e_; obtain rfl : m_ = im49 := e_
  refine ⟨by decide +kernel, ?_⟩
  refine ⟨by decide +kernel, ?_⟩
  intro m_ e_; obtain rfl : m_ = im50 := e_
  refine ⟨by decide +kernel, ?_⟩
  intro m_ e_; obtain rfl : m_ = im51 := e_
  refine ⟨by decide +kernel, ?_⟩
  intro m_ e_; obtain rfl : m_ = im52 := e_
  refine ⟨by decide +kernel, ?_⟩
  intro m_ e_; obtain rfl : m_ = im53 := e_
  refine ⟨by decide +kernel, ?_⟩
  intro m_ e_; obtain rfl : m_ = im54 := e_
  refine ⟨by decide +kernel, ?_⟩
  intro m_ e_; obtain rfl : m_ = im55 := e_
  intro m_ e_; obtain rfl : m_ = im56 := e_
  refine vX2_init_0 (by decide) ?_
  intro m_ e_; obtain rfl : m_ = im57 := e_
  refine ⟨by decide +kernel, ?_⟩
  intro m_ e_; obtain rfl : m_ = im58 := e_
  intro m_ e_; obtain rfl : m_ = im59 := e_
  refine ⟨by decide +kernel, ?_⟩
  intro m_ e_; obtain rfl : m_ = im60 := e_
  intro m_ e_; obtain rfl : m_ = im61 := e_
  refine ⟨by decide +kernel, ?_⟩
  intro m_ e_; obtain rfl : m_ = im62 := e_
  intro m_ e_; obtain rfl : m_ = im63 := e_
  refine ⟨by decide +kernel, ?_⟩
  intro m_ e_; obtain rfl : m_ = im64 := e_
  intro m_ e_; obtain rfl : m_ = im65 := e_
  refine ⟨by decide +kernel, ?_⟩
  intro m_ e_; obtain rfl : m_ = im66 := e_
  intro m_ e_; obtain rfl : m_ = im67 := e_
  refine ⟨by decide +kernel, ?_⟩
  intro m_ e_; obtain rfl : m_ = im68 := e_
  intro m_ e_; obtain rfl : m_ = im69 := e_
  refine ⟨by decide +kernel, ?_⟩
  intro m_ e_; obtain rfl : m_ = im70 := e_
  intro m_ e_; obtain rfl : m_ = im71 := e_
  refine ⟨by decide +kernel, ?_⟩
  intro m_ e_; obtain rfl : m_ = im72 := e_
  intro m_ e_; obtain rfl : m_ = im73 := e_
  refine ⟨by decide +kernel, ?_⟩
  intro m_ e_; obtain rfl : m_ = im74 := e_
  intro m_ e_; obtain rfl : m_ = im75 := e_
  refine ⟨by decide +kernel, ?_⟩
  intro m_ e_; obtain rfl : m_ = im76 := e_
  refine ⟨by decide +kernel, ?_⟩
  intro m_ e_; obtain rfl : m_ = im77 := e_
  intro m_ e_; obtain rfl : m_ = im78 := e_
  refine vX1_init_0 (by decide) ?_
  intro m_ e_; obtain rfl : m_ = im79 := e_
  refine ⟨by decide +kernel, ?_⟩
  intro m_ e_; obtain rfl : m_ = im80 := e_
  refine ⟨by decide +kernel, ?_⟩
  intro m_ e_; obtain rfl : m_ = im81 := e_
  intro m_ e_; obtain rfl : m_ = im82 := e_
  refine vX10_init_0 (by decide) ?_
  intro m_ e_; obtain rfl : m_ = im83 := e_
  refine ⟨by decide +kernel, ?_⟩
  intro m_ e_; obtain rfl : m_ = im84 := e_
  refine ⟨by decide +kernel, ?_⟩
  intro m_ e_; obtain rfl : m_ = im85 := e_
  intro m_ e_; obtain rfl : m_ = im86 := e_
  refine vX5_init_0 (by decide) ?_
  intro m_ e_; obtain rfl : m_ = im87 := e_
  refine ⟨by decide +kernel, ?_⟩
  intro m_ e_; obtain rfl : m_ = im88 := e_
  refine ⟨by decide +kernel, ?_⟩
  intro m_ e_; obtain rfl : m_ = im89 := e_
  intro m_ e_; obtain rfl : m_ = im90 := e_
  refine vX0_init_0 (by decide) ?_
  intro m_ e_; obtain rfl : m_ = im91 := e_
  refine ⟨by decide +kernel, ?_⟩
  intro m_ e_; obtain rfl : m_ = im92 := e_
  intro m_ e_; obtain rfl : m_ = im93 := e_
  refine ⟨by decide +kernel, ?_⟩
  intro m_ e_; obtain rfl : m_ = im94 := e_
  refine ⟨by decide +kernel, ?_⟩
  intro m_ e_; obtain rfl : m_ = im95 := e_
  refine ⟨by decide +kernel, ?_⟩
  intro m_ e_; obtain rfl : m_ = im96 := e_
  refine ⟨by decide +kernel, ?_⟩
  intro m_ e_; obtain rfl : m_ = im97 := e_
  intro m_ e_; obtain rfl : m_ = im98 := e_
  refine ⟨by decide +kernel, ?_⟩
  intro m_ e_; obtain rfl : m_ = im99 := e_
  intro m_ e_; obtain rfl : m_ = im100 := e_
  refine vX7_init_0 (by decide) ?_
  intro m_ e_; obtain rfl : m_ = im101 := e_
  refine ⟨by decide +kernel, ?_⟩
  intro m_ e_; obtain rfl : m_ = im102 := e_
  refine ⟨by decide +kernel, ?_⟩
  intro m_ e_; obtain rfl : m_ = im103 := e_
  refine ⟨by decide +kernel, ?_⟩
  intro m_ e_; obtain rfl : m_ = im104 := e_
  refine ⟨by decide +kernel, ?_⟩
  intro m_ e_; obtain rfl : m_ = im105 := e_
  refine ⟨by decide +kernel, ?_⟩
  intro m_ e_; obtain rfl : m_ = im106 := e_
  refine ⟨by decide +kernel, ?_⟩
  intro m_ e_; obtain rfl : m_ = im107 := e_
  intro m_ e_; obtain rfl : m_ = im108 := e_
  refine ⟨by decide +kernel, ?_⟩
  intro m_ e_; obtain rfl : m_ = im109 := e_
  refine ⟨by decide +kernel, ?_⟩
  intro m_ e_; obtain rfl : m_ = im110 := e_
  refine ⟨by decide +kernel, ?_⟩
  intro m_ e_; obtain rfl : m_ = im111 := e_
  refine ⟨by decide +kernel, ?_⟩
  intro m_ e_; obtain rfl : m_ = im112 := e_
  refine vX11_init_156 hd ⟨fun h_ => absurd h_ (by decide), fun _ => ?_⟩
  refine ⟨1, ?_⟩
  refine ⟨by decide +kernel, ?_⟩
  refine ⟨by decide +kernel, ?_⟩
  refine ⟨by decide, ?_⟩
  refine ⟨by decide, ?_⟩
  intro m_ e_; obtain rfl : m_ = im113 := e_
  refine ⟨by decide, ?_⟩
  refine ⟨by decide, ?_⟩
  refine vX8_init_0 (by decide) ?_
  refine ⟨by decide +kernel, ?_⟩
  intro m_ e_; obtain rfl : m_ = im114 := e_
  refine ⟨by decide +kernel, ?_⟩
  intro m_ e_; obtain rfl : m_ = im115 := e_
  refine ⟨by decide +kernel, ?_⟩
  intro m_ e_; obtain rfl : m_ = im116 := e_
  refine ⟨by decide +kernel, ?_⟩
  intro m_ e_; obtain rfl : m_ = im117 := e_
  refine ⟨by decide +kernel, ?_⟩
  intro m_ e_; obtain rfl : m_ = im118 := e_
  refine ⟨by decide +kernel, ?_⟩
  intro m_ e_; obtain rfl : m_ = im119 := e_
  refine ⟨by decide +kernel, ?_⟩
  intro m_ e_; obtain rfl : m_ = im120 := e_
  refine ⟨by decide +kernel, ?_⟩
  intro m_ e_; obtain rfl : m_ = im121 := e_
  refine ⟨by decide +kernel, ?_⟩
  intro m_ e_; obtain rfl : m_ = im122 := e_
  refine ⟨by decide +kernel, ?_⟩
  intro m_ e_; obtain rfl : m_ = im123 := e_
  refine c_mx60 ?_
  refine ⟨by decide, ?_⟩
  refine ⟨by decide +kernel, ?_⟩
  refine ⟨by decide +kernel, ?_⟩
  intro m_ e_; obtain rfl : m_ = im124 := e_
  refine ⟨by decide +kernel, ?_⟩
  intro m_ e_; obtain rfl : m_ = im125 := e_
  refine ⟨by decide +kernel, ?_⟩
  refine ⟨6, ?_⟩
  refine ⟨by decide +kernel, ?_⟩
  refine ⟨sm_lin (by decide), ?_⟩
  refine ⟨by decide +kernel, ?_⟩
  intro m_ e_; obtain rfl : m_ = im126 := e_
  refine ⟨2, ?_⟩
  refine ⟨by decide +kernel, ?_⟩
  refine ⟨by decide +kernel, ?_⟩
  refine ⟨by decide, ?_⟩
  refine ⟨by decide, ?_⟩
  intro m_ e_; obtain rfl : m_ = im127 := e_
  refine ⟨by decide, ?_⟩
  refine ⟨by decide, ?_⟩
  refine vX8_init_0 (by decide) ?_
  refine ⟨by decide +kernel, ?_⟩
  intro m_ e_; obtain rfl : m_ = im128 := e_
  refine ⟨by decide +kernel, ?_⟩
  intro m_ e_; obtain rfl : m_ = im129 := e_
  refine ⟨by decide +kernel, ?_⟩
  intro m_ e_; obtain rfl : m_ = im130 := e_
  refine ⟨by decide +kernel, ?_⟩
  intro m_ e_; obtain rfl : m_ = im131 := e_
  refine ⟨by decide +kernel, ?_⟩
  intro m_ e_; obtain rfl : m_ = im132 := e_
  refine ⟨by decide +kernel, ?_⟩
  intro m_ e_; obtain rfl : m_ = im133 := e_
  refine ⟨by decide +kernel, ?_⟩
  intro m_ e_; obtain rfl : m_ = im134 := e_
  refine ⟨by decide +kernel, ?_⟩
  intro m_ e_; obtain rfl : m_ = im135 := e_
  refine ⟨by decide +kernel, ?_⟩
  intro m_ e_; obtain rfl : m_ = im136 := e_
  refine ⟨by decide +kernel, ?_⟩
  intro m_ e_; obtain rfl : m_ = im137 := e_
  refine c_mx60 ?_
  refine ⟨by decide, ?_⟩
  refine ⟨by decide +kernel, ?_⟩
  refine ⟨by decide +kernel, ?_⟩
  intro m_ e_; obtain rfl : m_ = im138 := e_
  refine ⟨by decide +kernel, ?_⟩
  intro m_ e_; obtain rfl : m_ = im139 := e_
  refine ⟨by decide +kernel, ?_⟩
  refine ⟨6, ?_⟩
  refine ⟨by decide +kernel, ?_⟩
  refine ⟨sm_lin (by decide), ?_⟩
  refine ⟨by decide +kernel, ?_⟩
  intro m_ e_; obtain rfl : m_ = im140 := e_
  intro x_ e_; obtain rfl : x_ = 1 := e_.trans (by decide)
  refine vX11_init_156 hd ⟨fun h_ => absurd h_ (by decide), fun _ => ?_⟩
  refine ⟨1, ?_⟩
  refine ⟨by decide +kernel, ?_⟩
  refine ⟨by decide +kernel, ?_⟩
  refine ⟨by decide, ?_⟩
  refine ⟨by decide, ?_⟩
  intro m_ e_; obtain rfl : m_ = im141 := e_
  refine ⟨by decide, ?_⟩
  refine ⟨by decide, ?_⟩
  refine vX8_init_0 (by decide) ?_
  refine ⟨by decide +kernel, ?_⟩
  intro m_ e_; obtain rfl : m_ = im142 := e_
  refine ⟨by decide +kernel, ?_⟩
  intro m_ e_; obtain rfl : m_ = im143 := e_
  refine ⟨by decide +kernel, ?_⟩
  intro m_ e_; obtain rfl : m_ = im144 := e_
  refine ⟨by decide +kernel, ?_⟩
  intro m_ e_; obtain rfl : m_ = im145 := e_
  refine ⟨by decide +kernel, ?_⟩
  intro m_ e_; obtain rfl : m_ = im146 := e_
  refine ⟨by decide +kernel, ?_⟩
  intro m_ e_; obtain rfl : m_ = im147 := e_
  refine ⟨by decide +kernel, ?_⟩
  intro m_ e_; obtain rfl : m_ = im148 := e_
  refine ⟨by decide +kernel, ?_⟩
  intro m_ e_; obtain rfl : m_ = im149 := e_
  refine ⟨by decide +kernel, ?_⟩
  intro m_ e_; obtain rfl : m_ = im150 := e_
  refine ⟨by decide +kernel, ?_⟩
  intro m_ e_; obtain rfl : m_ = im151 := e_
  refine c_mx60 ?_
  refine ⟨by decide, ?_⟩
  refine ⟨by decide +kernel, ?_⟩
  refine ⟨by decide +kernel, ?_⟩
  intro m_ e_; obtain rfl : m_ = im152 := e_
  refine ⟨by decide +kernel, ?_⟩
  intro m_ e_; obtain rfl : m_ = im153 := e_
  refine ⟨by decide +kernel, ?_⟩
  refine ⟨6, ?_⟩
  refine ⟨by decide +kernel, ?_⟩
  refine ⟨sm_lin (by decide), ?_⟩
  refine ⟨by decide +kernel, ?_⟩
  intro m_ e_; obtain rfl : m_ = im154 := e_
  refine ⟨2, ?_⟩
  refine ⟨by decide +kernel, ?_⟩
  refine ⟨by decide +kernel, ?_⟩
  refine ⟨by decide, ?_⟩
  refine ⟨by decide, ?_⟩
  intro m_ e_; obtain rfl : m_ = im155 := e_
  refine ⟨by decide, ?_⟩
  refine ⟨by decide, ?_⟩
  refine vX8_init_0 (by decide) ?_
  refine ⟨by decide +kernel, ?_⟩
  intro m_ e_; obtain rfl : m_ = im156 := e_
  refine ⟨by decide +kernel, ?_⟩
  intro m_ e_; obtain rfl : m_ = im157 := e_
  refine ⟨by decide +kernel, ?_⟩
  intro m_ e_; obtain rfl : m_ = im158 := e_
  refine ⟨by decide +kernel, ?_⟩
  intro m_ e_; obtain rfl : m_ = im159 := e_
  refine ⟨by decide +kernel, ?_⟩
  intro m_ e_; obtain rfl : m_ = im160 := e_
  refine ⟨by decide +kernel, ?_⟩
  intro m_ e_; obtain rfl : m_ = im161 := e_
  refine ⟨by decide +kernel, ?_⟩
  intro m_ e_; obtain rfl : m_ = im162 := e_
  refine ⟨by decide +kernel, ?_⟩
  intro m_ e_; obtain rfl : m_ = im163 := e_
  refine ⟨by decide +kernel, ?_⟩
  intro m_ e_; obtain rfl : m_ = im164 := e_
  refine ⟨by decide +kernel, ?_⟩
  intro m_ e_; obtain rfl : m_ = im165 := e_
  refine c_mx60 ?_
  refine ⟨by decide, ?_⟩
  refine ⟨by decide +kernel, ?_⟩
  refine ⟨by decide +kernel, ?_⟩
  intro m_ e_; obtain rfl : m_ = im166 := e_
  refine ⟨by decide +kernel, ?_⟩
  intro m_ e_; obtain rfl : m_ = im167 := e_
  refine ⟨by decide +kernel, ?_⟩
  refine ⟨6, ?_⟩
  refine ⟨by decide +kernel, ?_⟩
  refine ⟨sm_lin (by decide), ?_⟩
  refine ⟨by decide +kernel, ?_⟩
  intro m_ e_; obtain rfl : m_ = im168 := e_
  intro x_ e_; obtain rfl : x_ = 2 := e_.trans (by decide)
  refine vX11_init_156 hd ⟨fun h_ => absurd h_ (by decide), fun _ => ?_⟩
  refine ⟨1, ?_⟩
  refine ⟨by decide +kernel, ?_⟩
  refine ⟨by decide +kernel, ?_⟩
  refine ⟨by decide, ?_⟩
  refine ⟨by decide, ?_⟩
  intro m_ e_; obtain rfl : m_ = im169 := e_
  refine ⟨by decide, ?_⟩
  refine ⟨by decide, ?_⟩
  refine vX8_init_0 (by decide) ?_
  refine ⟨by decide +kernel, ?_⟩
  intro m_ e_; obtain rfl : m_ = im170 := e_
  refine ⟨by decide +kernel, ?_⟩
  intro m_ e_; obtain rfl : m_ = im171 := e_
  refine ⟨by decide +kernel, ?_⟩
  intro m_ e_; obtain rfl : m_ = im172 := e_
  refine ⟨by decide +kernel, ?_⟩
  intro m_ e_; obtain rfl : m_ = im173 := e_
  refine ⟨by decide +kernel, ?_⟩
  intro m_ e_; obtain rfl : m_ = im174 := e_
  refine ⟨by decide +kernel, ?_⟩
  intro m_ e_; obtain rfl : m_ = im175 := e_
  refine ⟨by decide +kernel, ?_⟩
  intro m_ e_; obtain rfl : m_ = im176 := e_
  refine ⟨by decide +kernel, ?_⟩
  intro m_ e_; obtain rfl : m_ = im177 := e_
  refine ⟨by decide +kernel, ?_⟩
  intro m_ e_; obtain rfl : m_ = im178 := e_
  refine ⟨by decide +kernel, ?_⟩
  intro m_ e_; obtain rfl : m_ = im179 := e_
  refine c_mx60 ?_
  refine ⟨by decide, ?_⟩
  refine ⟨by decide +kernel, ?_⟩
  refine ⟨by decide +kernel, ?_⟩
  intro m_ e_; obtain rfl : m_ = im180 := e_
  refine ⟨by decide +kernel, ?_⟩
  intro m_ e_; obtain rfl : m_ = im181 := e_
  refine ⟨by decide +kernel, ?_⟩
  refine ⟨6, ?_⟩
  refine ⟨by decide +kernel, ?_⟩
  refine ⟨sm_lin (by decide), ?_⟩
  refine ⟨by decide +kernel, ?_⟩
  intro m_ e_; obtain rfl : m_ = im182 := e_
  refine ⟨2, ?_⟩
  refine ⟨by decide +kernel, ?_⟩
  refine ⟨by decide +kernel, ?_⟩
  refine ⟨by decide, ?_⟩
  refine ⟨by decide, ?_⟩
  intro m_ e_; obtain rfl : m_ = im183 := e_
  refine ⟨by decide, ?_⟩
  refine ⟨by decide, ?_⟩
  refine vX8_init_0 (by decide) ?_
  refine ⟨by decide +kernel, ?_⟩
  intro m_ e_; obtain rfl : m_ = im184 := e_
  refine ⟨by decide +kernel, ?_⟩
  intro m_ e_; obtain rfl : m_ = im185 := e_
  refine ⟨by decide +kernel, ?_⟩
  intro m_ e_; obtain rfl : m_ = im186 := e_
  refine ⟨by decide +kernel, ?_⟩
  intro m_ e_; obtain rfl : m_ = im187 := e_
  refine ⟨by decide +kernel, ?_⟩
  intro m_ e_; obtain rfl : m_ = im188 := e_
  refine ⟨by decide +kernel, ?_⟩
  intro m_ e_; obtain rfl : m_ = im189 := e_
  refine ⟨by decide +kernel, ?_⟩
  intro m_ e_; obtain rfl : m_ = im190 := e_
  refine ⟨by decide +kernel, ?_⟩
  intro m_ e_; obtain rfl : m_ = im191 := e_
  refine ⟨by decide +kernel, ?_⟩
  intro m_ e_; obtain rfl : m_ = im192 := e_
  refine ⟨by decide +kernel, ?_⟩
  intro m_ e_; obtain rfl : m_ = im193 := e_
  refine c_mx60 ?_
  refine ⟨by decide, ?_⟩
  refine ⟨by decide +kernel, ?_⟩
  refine ⟨by decide +kernel, ?_⟩
  intro m_ e_; obtain rfl : m_ = im194 := e_
  refine ⟨by decide +kernel, ?_⟩
  intro m_ e_; obtain rfl : m_ = im195 := e_
  refine ⟨by decide +kernel, ?_⟩
  refine ⟨6, ?_⟩
  refine ⟨by decide +kernel, ?_⟩
  refine ⟨sm_lin (by decide), ?_⟩
  refine ⟨by decide +kernel, ?_⟩
  intro m_ e_; obtain rfl : m_ = im196 := e_
  intro x_ e_; obtain rfl : x_ = 3 := e_.trans (by decide)
  refine vX11_init_156 hd ⟨fun h_ => absurd h_ (by decide), fun _ => ?_⟩
  refine ⟨1, ?_⟩
  refine ⟨by decide +kernel, ?_⟩
  refine ⟨by decide +kernel, ?_⟩
  refine ⟨by decide, ?_⟩
  refine ⟨by decide, ?_⟩
  intro m_ e_; obtain rfl : m_ = im197 := e_
  refine ⟨by decide, ?_⟩
  refine ⟨by decide, ?_⟩
  refine vX8_init_0 (by decide) ?_
  refine ⟨by decide +kernel, ?_⟩
  intro m_ e_; obtain rfl : m_ = im198 := e_
  refine ⟨by decide +kernel, ?_⟩
  intro m_ e_; obtain rfl : m_ = im199 := e_
  refine ⟨by decide +kernel, ?_⟩
  intro m_ e_; obtain rfl : m_ = im200 := e_
  refine ⟨by decide +kernel, ?_⟩
  intro m_ e_; obtain rfl : m_ = im201 := e_
  refine ⟨by decide +kernel, ?_⟩
  intro m_ e_; obtain rfl : m_ = im202 := e_
  refine ⟨by decide +kernel, ?_⟩
  intro m_ e_; obtain rfl : m_ = im203 := e_
  refine ⟨by decide +kernel, ?_⟩
  intro m_ e_; obtain rfl : m_ = im204 := e_
  refine ⟨by decide +kernel, ?_⟩
  intro m_ e_; obtain rfl : m_ = im205 := e_
  refine ⟨by decide +kernel, ?_⟩
  intro m_ e_; obtain rfl : m_ = im206 := e_
  refine ⟨by decide +kernel, ?_⟩
  intro m_ e_; obtain rfl : m_ = im207 := e_
  refine c_mx60 ?_
  refine ⟨by decide, ?_⟩
  refine ⟨by decide +kernel, ?_⟩
  refine ⟨by decide +kernel, ?_⟩
  intro m_ e_; obtain rfl : m_ = im208 := e_
  refine ⟨by decide +kernel, ?_⟩
  intro m_ e_; obtain rfl : m_ = im209 := e_
  refine ⟨by decide +kernel, ?_⟩
  refine ⟨6, ?_⟩
  refine ⟨by decide +kernel, ?_⟩
  refine ⟨sm_lin (by decide), ?_⟩
  refine ⟨by decide +kernel, ?_⟩
  intro m_ e_; obtain rfl : m_ = im210 := e_
  refine ⟨2, ?_⟩
  refine ⟨by decide +kernel, ?_⟩
  refine ⟨by decide +kernel, ?_⟩
  refine ⟨by decide, ?_⟩
  refine ⟨by decide, ?_⟩
  intro m_ e_; obtain rfl : m_ = im211 := e_
  refine ⟨by decide, ?_⟩
  refine ⟨by decide, ?_⟩
  refine vX8_init_0 (by decide) ?_
  refine ⟨by decide +kernel, ?_⟩
  intro m_ e_; obtain rfl : m_ = im212 := e_
  refine ⟨by decide +kernel, ?_⟩
  intro m_ e_; obtain rfl : m_ = im213 := e_
  refine ⟨by decide +kernel, ?_⟩
  intro m_ e_; obtain rfl : m_ = im214 := e_
  refine ⟨by decide +kernel, ?_⟩
  intro m_ e_; obtain rfl : m_ = im215 := e_
  refine ⟨by decide +kernel, ?_⟩
  intro m_ e_; obtain rfl : m_ = im216 := e_
  refine ⟨by decide +kernel, ?_⟩
  intro m_ e_; obtain rfl : m_ = im217 := e_
  refine ⟨by decide +kernel, ?_⟩
  intro m_ e_; obtain rfl : m_ = im218 := e_
  refine ⟨by decide +kernel, ?_⟩
  intro m_ e_; obtain rfl : m_ = im219 := e_
  refine ⟨by decide +kernel, ?_⟩
  intro m_ e_; obtain rfl : m_ = im220 := e_
  refine ⟨by decide +kernel, ?_⟩
  intro m_ e_; obtain rfl : m_ = im221 := e_
  refine c_mx60 ?_
  refine ⟨by decide, ?_⟩
  refine ⟨by decide +kernel, ?_⟩
  refine ⟨by decide +kernel, ?_⟩
  intro m_ e_; obtain rfl : m_ = im222 := e_
  refine ⟨by decide +kernel, ?_⟩
  intro m_ e_; obtain rfl : m_ = im223 := e_
  refine ⟨by decide +kernel, ?_⟩
  refine ⟨6, ?_⟩
  refine ⟨by decide +kernel, ?_⟩
  refine ⟨sm_lin (by decide), ?_⟩
  refine ⟨by decide +kernel, ?_⟩
  intro m_ e_; obtain rfl : m_ = im224 := e_
  intro x_ e_; obtain rfl : x_ = 4 := e_.trans (by decide)
  refine vX11_init_156 hd ⟨fun h_ => absurd h_ (by decide), fun _ => ?_⟩
  refine ⟨1, ?_⟩
  refine ⟨by decide +kernel, ?_⟩
  refine ⟨by decide +kernel, ?_⟩
  refine ⟨by decide, ?_⟩
  refine ⟨by decide, ?_⟩
  intro m_ e_; obtain rfl : m_ = im225 := e_
  refine ⟨by decide, ?_⟩
  refine ⟨by decide, ?_⟩
  refine vX8_init_0 (by decide) ?_
  refine ⟨by decide +kernel, ?_⟩
  intro m_ e_; obtain rfl : m_ = im226 := e_
  refine ⟨by decide +kernel, ?_⟩
  intro m_ e_; obtain rfl : m_ = im227 := e_
  refine ⟨by decide +kernel, ?_⟩
  intro m_ e_; obtain rfl : m_ = im228 := e_
  refine ⟨by decide +kernel, ?_⟩
  intro m_ e_; obtain rfl : m_ = im229 := e_
  refine ⟨by decide +kernel, ?_⟩
  intro m_ e_; obtain rfl : m_ = im230 := e_
  refine ⟨by decide +kernel, ?_⟩
  intro m_ e_; obtain rfl : m_ = im231 := e_
  refine ⟨by decide +kernel, ?_⟩
  intro m_ e_; obtain rfl : m_ = im232 := e_
  refine ⟨by decide +kernel, ?_⟩
  intro m_ e_; obtain rfl : m_ = im233 := e_
  refine ⟨by decide +kernel, ?_⟩
  intro m_ e_; obtain rfl : m_ = im234 := e_
  refine ⟨by decide +kernel, ?_⟩
  intro m_ e_; obtain rfl : m_ = im235 := e_
  refine c_mx60 ?_
  refine ⟨by decide, ?_⟩
  refine ⟨by decide +kernel, ?_⟩
  refine ⟨by decide +kernel, ?_⟩
  intro m_ e_; obtain rfl : m_ = im236 := e_
  refine ⟨by decide +kernel, ?_⟩
  intro m_ e_; obtain rfl : m_ = im237 := e_
  refine ⟨by decide +kernel, ?_⟩
  refine ⟨6, ?_⟩
  refine ⟨by decide +kernel, ?_⟩
  refine ⟨sm_lin (by decide), ?_⟩
  refine ⟨by decide +kernel, ?_⟩
  intro m_ e_; obtain rfl : m_ = im238 := e_
  refine ⟨2, ?_⟩
  refine ⟨by decide +kernel, ?_⟩
  refine ⟨by decide +kernel, ?_⟩
  refine ⟨by decide, ?_⟩
  refine ⟨by decide, ?_⟩
  intro m_ e_; obtain rfl : m_ = im239 := e_
  refine ⟨by decide, ?_⟩
  refine ⟨by decide, ?_⟩
  refine vX8_init_0 (by decide) ?_
  refine ⟨by decide +kernel, ?_⟩
  intro m_ e_; obtain rfl : m_ = im240 := e_
  refine ⟨by decide +kernel, ?_⟩
  intro m_ e_; obtain rfl : m_ = im241 := e_
  refine ⟨by decide +kernel, ?_⟩
  intro m_ e_; obtain rfl : m_ = im242 := e_
  refine ⟨by decide +kernel, ?_⟩
  intro m_ e_; obtain rfl : m_ = im243 := e_
  refine ⟨by decide +kernel, ?_⟩
  intro m_ e_; obtain rfl : m_ = im244 := e_
  refine ⟨by decide +kernel, ?_⟩
  intro m_ e_; obtain rfl : m_ = im245 := e_
  refine ⟨by decide +kernel, ?_⟩
  intro m_ e_; obtain rfl : m_ = im246 := e_
  refine ⟨by decide +kernel, ?_⟩
  intro m_ e_; obtain rfl : m_ = im247 := e_
  refine ⟨by decide +kernel, ?_⟩
  intro m_ e_; obtain rfl : m_ = im248 := e_
  refine ⟨by decide +kernel, ?_⟩
  intro m_ e_; obtain rfl : m_ = im249 := e_
  refine c_mx60 ?_
  refine ⟨by decide, ?_⟩
  refine ⟨by decide +kernel, ?_⟩
  refine ⟨by decide +kernel, ?_⟩
  intro m_ e_; obtain rfl : m_ = im250 := e_
  refine ⟨by decide +kernel, ?_⟩
  intro m_ e_; obtain rfl : m_ = im251 := e_
  refine ⟨by decide +kernel, ?_⟩
  refine ⟨6, ?_⟩
  refine ⟨by decide +kernel, ?_⟩
  refine ⟨sm_lin (by decide), ?_⟩
  refine ⟨by decide +kernel, ?_⟩
  intro m_ e_; obtain rfl : m_ = im252 := e_
  intro x_ e_; obtain rfl : x_ = 5 := e_.trans (by decide)
  refine vX11_init_156 hd ⟨fun h_ => absurd h_ (by decide), fun _ => ?_⟩
  refine ⟨1, ?_⟩
  refine ⟨by decide +kernel, ?_⟩
  refine ⟨by decide +kernel, ?_⟩
  refine ⟨by decide, ?_⟩
  refine ⟨by decide, ?_⟩
  intro m_ e_; obtain rfl : m_ = im253 := e_
  refine ⟨by decide, ?_⟩
  refine ⟨by decide, ?_⟩
  refine vX8_init_0 (by decide) ?_
  refine ⟨by decide +kernel, ?_⟩
  intro m_ e_; obtain rfl : m_ = im254 := e_
  refine ⟨by decide +kernel, ?_⟩
  intro m_ e_; obtain rfl : m_ = im255 := e_
  refine ⟨by decide +kernel, ?_⟩
  intro m_ e_; obtain rfl : m_ = im256 := e_
  refine ⟨by decide +kernel, ?_⟩
  intro m_ e_; obtain rfl : m_ = im257 := e_
  refine ⟨by decide +kernel, ?_⟩
  intro m_ e_; obtain rfl : m_ = im258 := e_
  refine ⟨by decide +kernel, ?_⟩
  intro m_ e_; obtain rfl : m_ = im259 := e_
  refine ⟨by decide +kernel, ?_⟩
  intro m_ e_; obtain rfl : m_ = im260 := e_
  refine ⟨by decide +kernel, ?_⟩
  intro m_ e_; obtain rfl : m_ = im261 := e_
  refine ⟨by decide +kernel, ?_⟩
  intro m_ e_; obtain rfl : m_ = im262 := e_
  refine ⟨by decide +kernel, ?_⟩
  intro m_ e_; obtain rfl : m_ = im263 := e_
  refine c_mx60 ?_
  refine ⟨by decide, ?_⟩
  refine ⟨by decide +kernel, ?_⟩
  refine ⟨by decide +kernel, ?_⟩
  intro m_ e_; obtain rfl : m_ = im264 := e_
  refine ⟨by decide +kernel, ?_⟩
  intro m_ e_; obtain rfl : m_ = im265 := e_
  refine ⟨by decide +kernel, ?_⟩
  refine ⟨6, ?_⟩
  refine ⟨by decide +kernel, ?_⟩
  refine ⟨sm_lin (by decide), ?_⟩
  refine ⟨by decide +kernel, ?_⟩
  intro m_ e_; obtain rfl : m_ = im266 := e_
  refine ⟨2, ?_⟩
  refine ⟨by decide +kernel, ?_⟩
  refine ⟨by decide +kernel, ?_⟩
  refine ⟨by decide, ?_⟩
  refine ⟨by decide, ?_⟩
  intro m_ e_; obtain rfl : m_ = im267 := e_
  refine ⟨by decide, ?_⟩
  refine ⟨by decide, ?_⟩
  refine vX8_init_0 (by decide) ?_
  refine ⟨by decide +kernel, ?_⟩
  intro m_ e_; obtain rfl : m_ = im268 := e_
  refine ⟨by decide +kernel, ?_⟩
  intro m_ e_; obtain rfl : m_ = im269 := e_
  refine ⟨by decide +kernel, ?_⟩
  intro m_ e_; obtain rfl : m_ = im270 := e_
  refine ⟨by decide +kernel, ?_⟩
  intro m_ e_; obtain rfl : m_ = im271 := e_
  refine ⟨by decide +kernel, ?_⟩
  intro m_ e_; obtain rfl : m_ = im272 := e_
  refine ⟨by decide +kernel, ?_⟩
  intro m_ e_; obtain rfl : m_ = im273 := e_
  refine ⟨by decide +kernel, ?_⟩
  intro m_ e_; obtain rfl : m_ = im274 := e_
  refine ⟨by decide +kernel, ?_⟩
  intro m_ e_; obtain rfl : m_ = im275 := e_
  refine ⟨by decide +kernel, ?_⟩
  intro m_ e_; obtain rfl : m_ = im276 := e_
  refine ⟨by decide +kernel, ?_⟩
  intro m_ e_; obtain rfl : m_ = im277 := e_
  refine c_mx60 ?_
  refine ⟨by decide, ?_⟩
  refine ⟨by decide +kernel, ?_⟩
  refine ⟨by decide +kernel, ?_⟩
  intro m_ e_; obtain rfl : m_ = im278 := e_
  refine ⟨by decide +kernel, ?_⟩
  intro m_ e_; obtain rfl : m_ = im279 := e_
  refine ⟨by decide +kernel, ?_⟩
  refine ⟨6, ?_⟩
  refine ⟨by decide +kernel, ?_⟩
  refine ⟨sm_lin (by decide), ?_⟩
  refine ⟨by decide +kernel, ?_⟩
  intro m_ e_; obtain rfl : m_ = im280 := e_
  intro x_ e_; obtain rfl : x_ = 6 := e_.trans (by decide)
  refine vX11_init_156 hd ⟨fun _ => ?_, fun h_ => absurd (by decide) h_⟩
  refine vX11_init_200 hd ⟨fun h_ => absurd h_ (by decide), fun _ => ?_⟩
  refine ⟨73, ?_⟩
  refine ⟨by decide +kernel, ?_⟩
  refine ⟨by decide +kernel, ?_⟩
  refine ⟨by decide, ?_⟩
  refine ⟨by decide, ?_⟩
  intro m_ e_; obtain rfl : m_ = im281 := e_
  refine ⟨by decide, ?_⟩
  refine ⟨by decide, ?_⟩
  refine vX7_init_0 (by decide) ?_
  intro m_ e_; obtain rfl : m_ = im282 := e_
  refine ⟨by decide +kernel, ?_⟩
  intro m_ e_; obtain rfl : m_ = im283 := e_
  refine ⟨by decide +kernel, ?_⟩
  intro m_ e_; obtain rfl : m_ = im284 := e_
  refine ⟨by decide +kernel, ?_⟩
  intro m_ e_; obtain rfl : m_ = im285 := e_
  refine ⟨by decide +kernel, ?_⟩
  intro m_ e_; obtain rfl : m_ = im286 := e_
  refine ⟨by decide +kernel, ?_⟩
  intro m_ e_; obtain rfl : m_ = im287 := e_
  refine ⟨4, ?_⟩
  refine ⟨by decide +kernel, ?_⟩
  refine ⟨sm_lin (by decide), ?_⟩
  refine ⟨by decide +kernel, ?_⟩
  intro m_ e_; obtain rfl : m_ = im288 := e_
  intro x_ e_; obtain rfl : x_ = 1 := e_.trans (by decide)
  refine vX11_init_200 hd ⟨fun h_ => absurd h_ (by decide), fun _ => ?_⟩
  refine ⟨73, ?_⟩
  refine ⟨by decide +kernel, ?_⟩
  refine ⟨by decide +kernel, ?_⟩
  refine ⟨by decide, ?_⟩
  refine ⟨by decide, ?_⟩
  intro m_ e_; obtain rfl : m_ = im289 := e_
  refine ⟨by decide, ?_⟩
  refine ⟨by decide, ?_⟩
  refine vX7_init_0 (by decide) ?_
  intro m_ e_; obtain rfl : m_ = im290 := e_
  refine ⟨by decide +kernel, ?_⟩
  intro m_ e_; obtain rfl : m_ = im291 := e_
  refine ⟨by decide +kernel, ?_⟩
  intro m_ e_; obtain rfl : m_ = im292 := e_
  refine ⟨by decide +kernel, ?_⟩
  intro m_ e_; obtain rfl : m_ = im293 := e_
  refine ⟨by decide +kernel, ?_⟩
  intro m_ e_; obtain rfl : m_ = im294 := e_
  refine ⟨by decide +kernel, ?_⟩
  intro m_ e_; obtain rfl : m_ = im295 := e_
  refine ⟨4, ?_⟩
  refine ⟨by decide +kernel, ?_⟩
  refine ⟨sm_lin (by decide), ?_⟩
  refine ⟨by decide +kernel, ?_⟩
  intro m_ e_; obtain rfl : m_ = im296 := e_
  intro x_ e_; obtain rfl : x_ = 2 := e_.trans (by decide)
  refine vX11_init_200 hd ⟨fun h_ => absurd h_ (by decide), fun _ => ?_⟩
  refine ⟨73, ?_⟩
  refine ⟨by decide +kernel, ?_⟩
  refine ⟨by decide +kernel, ?_⟩
  refine ⟨by decide, ?_⟩
  refine ⟨by decide, ?_⟩
  intro m_ e_; obtain rfl : m_ = im297 := e_
  refine ⟨by decide, ?_⟩
  refine ⟨by decide, ?_⟩
  refine vX7_init_0 (by decide) ?_
  intro m_ e_; obtain rfl : m_ = im298 := e_
  refine ⟨by decide +kernel, ?_⟩
  intro m_ e_; obtain rfl : m_ = im299 := e_
  refine ⟨by decide +kernel, ?_⟩
  intro m_ e_; obtain rfl : m_ = im300 := e_
  refine ⟨by decide +kernel, ?_⟩
  intro m_ e_; obtain rfl : m_ = im301 := e_
  refine ⟨by decide +kernel, ?_⟩
  intro m_ e_; obtain rfl : m_ = im302 := e_
  refine ⟨by decide +kernel, ?_⟩
  intro m_ e_; obtain rfl : m_ = im303 := e_
  refine ⟨4, ?_⟩
  refine ⟨by decide +kernel, ?_⟩
  refine ⟨sm_lin (by decide), ?_⟩
  refine ⟨by decide +kernel, ?_⟩
  intro m_ e_; obtain rfl : m_ = im304 := e_
  intro x_ e_; obtain rfl : x_ = 3 := e_.trans (by decide)
  refine vX11_init_200 hd ⟨fun h_ => absurd h_ (by decide), fun _ => ?_⟩
  refine ⟨73, ?_⟩
  refine ⟨by decide +kernel, ?_⟩
  refine ⟨by decide +kernel, ?_⟩
  refine ⟨by decide, ?_⟩
  refine ⟨by decide, ?_⟩
  intro m_ e_; obtain rfl : m_ = im305 := e_
  refine ⟨by decide, ?_⟩
  refine ⟨by decide, ?_⟩
  refine vX7_init_0 (by decide) ?_
  intro m_ e_; obtain rfl : m_ = im306 := e_
  refine ⟨by decide +kernel, ?_⟩
  intro m_ e_; obtain rfl : m_ = im307 := e_
  refine ⟨by decide +kernel, ?_⟩
  intro m_ e_; obtain rfl : m_ = im308 := e_
  refine ⟨by decide +kernel, ?_⟩
  intro m_ e_; obtain rfl : m_ = im309 := e_
  refine ⟨by decide +kernel, ?_⟩
  intro m_ e_; obtain rfl : m_ = im310 := e_
  refine ⟨by decide +kernel, ?_⟩
  intro m_ e_; obtain rfl : m_ = im311 := e_
  refine ⟨4, ?_⟩
  refine ⟨by decide +kernel, ?_⟩
  refine ⟨sm_lin (by decide), ?_⟩
  refine ⟨by decide +kernel, ?_⟩
  intro m_ e_; obtain rfl : m_ = im312 := e_
  intro x_ e_; obtain rfl : x_ = 4 := e_.trans (by decide)
  refine vX11_init_200 hd ⟨fun _ => ?_, fun h_ => absurd (by decide) h_⟩
  refine ⟨by decide, ?_⟩
  refine ⟨by decide, ?_⟩
  exact h
set_option maxRecDepth 20000 in
set_option maxHeartbeats 4000000 in
theorem mk_X12 {E : sm_E} {d : Nat} {Q : sm_M → Prop} (hd : 1 ≤ d) (h : Q im398) : sm_callV E sm_L0 mX12_init d 39 5611 [.ref (sm_B E + 109)] im313 Q := by
  refine vX12_init_0 hd ?_
  intro m_ e_; obtain rfl : m_ = im314 := e_
  refine ⟨by decide +kernel, ?_⟩
  intro m_ e_; obtain rfl : m_ = im315 := e_
  intro m_ e_; obtain rfl : m_ = im316 := e_
  refine ⟨by decide +kernel, ?_⟩
  intro m_ e_; obtain rfl : m_ = im317 := e_
  intro m_ e_; obtain rfl : m_ = im318 := e_
  refine ⟨by decide +kernel, ?_⟩
  intro m_ e_; obtain rfl : m_ = im319 := e_
  intro m_ e_; obtain rfl : m_ = im320 := e_
  refine ⟨by decide +kernel, ?_⟩
  intro m_ e_; obtain rfl : m_ = im321 := e_
  intro m_ e_; obtain rfl : m_ = im322 := e_
  refine ⟨by decide +kernel, ?_⟩
  intro m_ e_; obtain rfl : m_ = im323 := e_
  intro m_ e_; obtain rfl : m_ = im324 := e_
  refine ⟨by decide +kernel, ?_⟩
  intro m_ e_; obtain rfl : m_ = im325 := e_
  refine ⟨by decide +kernel, ?_⟩
  intro m_ e_; obtain rfl : m_ = im326 := e_
  intro m_ e_; obtain rfl : m_ = im327 := e_
  refine ⟨by decide +kernel, ?_⟩
  intro m_ e_; obtain rfl : m_ = im328 := e_
  intro m_ e_; obtain rfl : m_ = im329 := e_
  refine ⟨by decide +kernel, ?_⟩
  intro m_ e_; obtain rfl : m_ = im330 := e_
  intro m_ e_; obtain rfl : m_ = im331 := e_
  refine ⟨by decide +kernel, ?_⟩
  intro m_ e_; obtain rfl : m_ = im332 := e_
  intro m_ e_; obtain rfl : m_ = im333 := e_
  refine ⟨by decide +kernel, ?_⟩
  intro m_ e_; obtain rfl : m_ = im334 := e_
  intro m_ e_; obtain rfl : m_ = im335 := e_
  refine ⟨by decide +kernel, ?_⟩
  intro m_ e_; obtain rfl : m_ = im336 := e_
  intro m_ e_; obtain rfl : m_ = im337 := e_
  refine ⟨by decide +kernel, ?_⟩
  intro m_ e_; obtain rfl : m_ = im338 := e_
  intro m_ e_; obtain rfl : m_ = im339 := e_
  refine ⟨by decide +kernel, ?_⟩
  intro m_ e_; obtain rfl : m_ = im340 := e_
  intro m_ e_; obtain rfl : m_ = im341 := e_
  refine ⟨by decide +kernel, ?_⟩
  intro m_ e_; obtain rfl : m_ = im342 := e_
  intro m_ e_; obtain rfl : m_ = im343 := e_
  refine ⟨by decide +kernel, ?_⟩
  intro m_ e_; obtain rfl : m_ = im344 := e_
  intro m_ e_; obtain rfl : m_ = im345 := e_
  refine ⟨by decide +kernel, ?_⟩
  intro m_ e_; obtain rfl : m_ = im346 := e_
  intro m_ e_; obtain rfl : m_ = im347 := e_
  refine ⟨by decide +kernel, ?_⟩
  intro m_ e_; obtain rfl : m_ = im348 := e_
  intro m_ e_; obtain rfl : m_ = im349 := e_
  refine ⟨by decide +kernel, ?_⟩
  intro m_ e_; obtain rfl : m_ = im350 := e_
  intro m_ e_; obtain rfl : m_ = im351 := e_
  refine ⟨by decide +kernel, ?_⟩
  intro m_ e_; obtain rfl : m_ = im352 := e_
  intro m_ e_; obtain rfl : m_ = im353 := e_
  refine ⟨by decide +kernel, ?_⟩
  intro m_ e_; obtain rfl : m_ = im354 := e_
  intro m_ e_; obtain rfl : m_ = im355 := e_
  refine ⟨by decide +kernel, ?_⟩
  intro m_ e_; obtain rfl : m_ = im356 := e_
  intro m_ e_; obtain rfl : m_ = im357 := e_
  refine ⟨by decide +kernel, ?_⟩
  intro m_ e_; obtain rfl : m_ = im358 := e_
  intro m_ e_; obtain rfl : m_ = im359 := e_
  refine ⟨by decide +kernel, ?_⟩
  intro m_ e_; obtain rfl : m_ = im360 := e_
  intro m_ e_; obtain rfl : m_ = im361 := e_
  refine ⟨by decide +kernel, ?_⟩
  intro m_ e_; obtain rfl : m_ = im362 := e_
  intro m_ e_; obtain rfl : m_ = im363 := e_
  refine ⟨by decide +kernel, ?_⟩
  intro m_ e_; obtain rfl : m_ = im364 := e_
  intro m_ e_; obtain rfl : m_ = im365 := e_
  refine ⟨by decide +kernel, ?_⟩
  intro m_ e_; obtain rfl : m_ = im366 := e_
  intro m_ e_; obtain rfl : m_ = im367 := e_
  refine ⟨by decide +kernel, ?_⟩
  intro m_ e_; obtain rfl : m_ = im368 := e_
  intro m_ e_; obtain rfl : m_ = im369 := e_
  refine ⟨by decide +kernel, ?_⟩
  intro m_ e_; obtain rfl : m_ = im370 := e_
  intro m_ e_; obtain rfl : m_ = im371 := e_
  refine ⟨by decide +kernel, ?_⟩
  intro m_ e_; obtain rfl : m_ = im372 := e_
  intro m_ e_; obtain rfl : m_ = im373 := e_
  refine ⟨by decide +kernel, ?_⟩
  intro m_ e_; obtain rfl : m_ = im374 := e_
  intro m_ e_; obtain rfl : m_ = im375 := e_
  refine ⟨by decide +kernel, ?_⟩
  intro m_ e_; obtain rfl : m_ = im376 := e_
  intro m_ e_; obtain rfl : m_ = im377 := e_
  refine ⟨by decide +kernel, ?_⟩
  intro m_ e_; obtain rfl : m_ = im378 := e_
  intro m_ e_; obtain rfl : m_ = im379 := e_
  refine ⟨by decide +kernel, ?_⟩
  intro m_ e_; obtain rfl : m_ = im380 := e_
  intro m_ e_; obtain rfl : m_ = im381 := e_
  refine ⟨by decide +kernel, ?_⟩
  intro m_ e_; obtain rfl : m_ = im382 := e_
  intro m_ e_; obtain rfl : m_ = im383 := e_
  refine ⟨by decide +kernel, ?_⟩
  intro m_ e_; obtain rfl : m_ = im384 := e_
  intro m_ e_; obtain rfl : m_ = im385 := e_
  refine ⟨by decide +kernel, ?_⟩
  intro m_ e_; obtain rfl : m_ = im386 := e_
  intro m_ e_; obtain rfl : m_ = im387 := e_
  refine ⟨by decide +kernel, ?_⟩
  intro m_ e_; obtain rfl : m_ = im388 := e_
  intro m_ e_; obtain rfl : m_ = im389 := e_
  refine ⟨by decide +kernel, ?_⟩
  intro m_ e_; obtain rfl : m_ = im390 := e_
  intro m_ e_; obtain rfl : m_ = im391 := e_
  refine ⟨by decide +kernel, ?_⟩
  intro m_ e_; obtain rfl : m_ = im392 := e_
  refine vX12_init_334 hd ⟨fun h_ => absurd h_ (by decide), fun _ => ?_⟩
  refine ⟨112, ?_⟩
  refine ⟨by decide +kernel, ?_⟩
  refine ⟨by decide +kernel, ?_⟩
  refine ⟨6, ?_⟩
  refine ⟨by decide +kernel, ?_⟩
  refine ⟨sm_lin (by decide), ?_⟩
  intro m_ e_; obtain rfl : m_ = im393 := e_
  intro x_ e_; obtain rfl : x_ = 1 := e_.trans (by decide)
  refine vX12_init_334 hd ⟨fun h_ => absurd h_ (by decide), fun _ => ?_⟩
  refine ⟨112, ?_⟩
  refine ⟨by decide +kernel, ?_⟩
  refine ⟨by decide +kernel, ?_⟩
  refine ⟨6, ?_⟩
  refine ⟨by decide +kernel, ?_⟩
  refine ⟨sm_lin (by decide), ?_⟩
  intro m_ e_; obtain rfl : m_ = im394 := e_
  intro x_ e_; obtain rfl : x_ = 2 := e_.trans (by decide)
  refine vX12_init_334 hd ⟨fun h_ => absurd h_ (by decide), fun _ => ?_⟩
  refine ⟨112, ?_⟩
  refine ⟨by decide +kernel, ?_⟩
  refine ⟨by decide +kernel, ?_⟩
  refine ⟨6, ?_⟩
  refine ⟨by decide +kernel, ?_⟩
  refine ⟨sm_lin (by decide), ?_⟩
  intro m_ e_; obtain rfl : m_ = im395 := e_
  intro x_ e_; obtain rfl : x_ = 3 := e_.trans (by decide)
  refine vX12_init_334 hd ⟨fun h_ => absurd h_ (by decide), fun _ => ?_⟩
  refine ⟨112, ?_⟩
  refine ⟨by decide +kernel, ?_⟩
  refine ⟨by decide +kernel, ?_⟩
  refine ⟨6, ?_⟩
  refine ⟨by decide +kernel, ?_⟩
  refine ⟨sm_lin (by decide), ?_⟩
  intro m_ e_; obtain rfl : m_ = im396 := e_
  intro x_ e_; obtain rfl : x_ = 4 := e_.trans (by decide)
  refine vX12_init_334 hd ⟨fun h_ => absurd h_ (by decide), fun _ => ?_⟩
  refine ⟨112, ?_⟩
  refine ⟨by decide +kernel, ?_⟩
  refine ⟨by decide +kernel, ?_⟩
  refine ⟨6, ?_⟩
  refine ⟨by decide +kernel, ?_⟩
  refine ⟨sm_lin (by decide), ?_⟩
  intro m_ e_; obtain rfl : m_ = im397 := e_
  intro x_ e_; obtain rfl : x_ = 5 := e_.trans (by decide)
  refine vX12_init_334 hd ⟨fun h_ => absurd h_ (by decide), fun _ => ?_⟩
  refine ⟨112, ?_⟩
  refine ⟨by decide +kernel, ?_⟩
  refine ⟨by decide +kernel, ?_⟩
  refine ⟨6, ?_⟩
  refine ⟨by decide +kernel, ?_⟩
  refine ⟨sm_lin (by decide), ?_⟩
  intro m_ e_; obtain rfl : m_ = im398 := e_
  intro x_ e_; obtain rfl : x_ = 6 := e_.trans (by decide)
  refine vX12_init_334 hd ⟨fun _ => ?_, fun h_ => absurd (by decide) h_⟩
  refine ⟨by decide, ?_⟩
  refine ⟨by decide, ?_⟩
  exact h
abbrev imA : sm_M := im312
abbrev imB : sm_M := im313
abbrev imC : sm_M := im398
