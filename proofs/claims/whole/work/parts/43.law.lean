def f_L_law_23 (L : Nat) (xs : Nat → Int32) (l1 l2 l3 : Nat) (n : Nat) (h : AH) (l4 : Int32) : Option AH := match n with
| 0 => none
| n + 1 =>
if ((nI L) - 5) < l4 then
some h
else
Option.bind (scI L xs l4) fun x1 =>
Option.bind (some (x1 &&& 31)) fun x2 =>
if x2 = 0 then
Option.bind (scI L xs (l4 + 1)) fun x3 =>
Option.bind (scI L xs (l4 + 2)) fun x4 =>
Option.bind (scI L xs (l4 + 3)) fun x5 =>
Option.bind (scI L xs (l4 + 4)) fun x6 =>
Option.bind (f_L_thing h l1 x3 x4 x5 x6 l3) fun w => match w with
| (x7, h8) =>
Option.bind (scI L xs (l4 + 1)) fun x9 =>
Option.bind (scI L xs (l4 + 2)) fun x10 =>
Option.bind (scI L xs (l4 + 3)) fun x11 =>
Option.bind (scI L xs (l4 + 4)) fun x12 =>
Option.bind (f_X9_thing h8 l2 x9 x10 x11 x12) fun w => match w with
| (x13, h14) =>
Option.bind (f_X9_thrown h14 l2) fun x15 =>
if x15 = x7 then
if x7 = 0 then
Option.bind (ldJ h14 l3 0) fun x17 =>
if (lg_cmp x17 x13.toInt64) = 0 then
f_L_law_23 L xs l1 l2 l3 n h14 (l4 + 5)
else
none
else
f_L_law_23 L xs l1 l2 l3 n h14 (l4 + 5)
else
none
else
if x2 = 1 then
Option.bind (scI L xs (l4 + 1)) fun x18 =>
Option.bind (scI L xs (l4 + 2)) fun x19 =>
Option.bind (f_L_list h l1 x18 x19 l3) fun w => match w with
| (x20, h21) =>
Option.bind (scI L xs (l4 + 1)) fun x22 =>
Option.bind (scI L xs (l4 + 2)) fun x23 =>
Option.bind (f_X9_list h21 l2 x22 x23) fun w => match w with
| (x24, h25) =>
Option.bind (f_X9_thrown h25 l2) fun x26 =>
if x26 = x20 then
if x20 = 0 then
Option.bind (ldJ h25 l3 0) fun x28 =>
if (lg_cmp x28 x24.toInt64) = 0 then
f_L_law_23 L xs l1 l2 l3 n h25 (l4 + 5)
else
none
else
f_L_law_23 L xs l1 l2 l3 n h25 (l4 + 5)
else
none
else
if x2 = 2 then
Option.bind (scI L xs (l4 + 1)) fun x29 =>
Option.bind (scI L xs (l4 + 2)) fun x30 =>
Option.bind (f_L_step h l1 x29 x30 l3) fun w => match w with
| (x31, h32) =>
Option.bind (scI L xs (l4 + 1)) fun x33 =>
Option.bind (scI L xs (l4 + 2)) fun x34 =>
Option.bind (f_X9_step h32 l2 x33 x34) fun w => match w with
| (x35, h36) =>
Option.bind (f_X9_thrown h36 l2) fun x37 =>
if x37 = x31 then
if x31 = 0 then
Option.bind (ldJ h36 l3 0) fun x39 =>
if (lg_cmp x39 x35.toInt64) = 0 then
f_L_law_23 L xs l1 l2 l3 n h36 (l4 + 5)
else
none
else
f_L_law_23 L xs l1 l2 l3 n h36 (l4 + 5)
else
none
else
if x2 = 3 then
Option.bind (scI L xs (l4 + 1)) fun x40 =>
Option.bind (f_L_maker h l1 x40 l3) fun w => match w with
| (x41, h42) =>
Option.bind (scI L xs (l4 + 1)) fun x43 =>
Option.bind (f_X9_maker h42 l2 x43) fun w => match w with
| (x44, h45) =>
Option.bind (f_X9_thrown h45 l2) fun x46 =>
if x46 = x41 then
if x41 = 0 then
Option.bind (ldJ h45 l3 0) fun x48 =>
if (lg_cmp x48 x44.toInt64) = 0 then
f_L_law_23 L xs l1 l2 l3 n h45 (l4 + 5)
else
none
else
f_L_law_23 L xs l1 l2 l3 n h45 (l4 + 5)
else
none
else
if x2 = 4 then
Option.bind (f_L_open h l1 l3) fun w => match w with
| (x49, h50) =>
Option.bind (f_X9_open h50 l2) fun w => match w with
| (x51, h52) =>
Option.bind (f_X9_thrown h52 l2) fun x53 =>
if x53 = x49 then
if x49 = 0 then
Option.bind (ldJ h52 l3 0) fun x55 =>
if (lg_cmp x55 x51.toInt64) = 0 then
f_L_law_23 L xs l1 l2 l3 n h52 (l4 + 5)
else
none
else
f_L_law_23 L xs l1 l2 l3 n h52 (l4 + 5)
else
none
else
if x2 = 5 then
Option.bind (scI L xs (l4 + 1)) fun x56 =>
Option.bind (scI L xs (l4 + 2)) fun x57 =>
Option.bind (scI L xs (l4 + 3)) fun x58 =>
Option.bind (f_L_place h l1 x56 x57 x58 l3) fun w => match w with
| (x59, h60) =>
Option.bind (scI L xs (l4 + 1)) fun x61 =>
Option.bind (scI L xs (l4 + 2)) fun x62 =>
Option.bind (scI L xs (l4 + 3)) fun x63 =>
Option.bind (f_X9_place h60 l2 x61 x62 x63) fun w => match w with
| (x64, h65) =>
Option.bind (f_X9_thrown h65 l2) fun x66 =>
if x66 = x59 then
if x59 = 0 then
Option.bind (ldJ h65 l3 0) fun x68 =>
if (lg_cmp x68 x64.toInt64) = 0 then
f_L_law_23 L xs l1 l2 l3 n h65 (l4 + 5)
else
none
else
f_L_law_23 L xs l1 l2 l3 n h65 (l4 + 5)
else
none
else
if x2 = 6 then
Option.bind (scI L xs (l4 + 1)) fun x69 =>
Option.bind (f_L_take h l1 x69 l3) fun w => match w with
| (x70, h71) =>
Option.bind (scI L xs (l4 + 1)) fun x72 =>
Option.bind (f_X9_take h71 l2 x72) fun w => match w with
| (x73, h74) =>
Option.bind (f_X9_thrown h74 l2) fun x75 =>
if x75 = x70 then
if x70 = 0 then
Option.bind (ldJ h74 l3 0) fun x77 =>
if (lg_cmp x77 x73.toInt64) = 0 then
f_L_law_23 L xs l1 l2 l3 n h74 (l4 + 5)
else
none
else
f_L_law_23 L xs l1 l2 l3 n h74 (l4 + 5)
else
none
else
if x2 = 7 then
Option.bind (scI L xs (l4 + 1)) fun x78 =>
Option.bind (scI L xs (l4 + 2)) fun x79 =>
Option.bind (scI L xs (l4 + 3)) fun x80 =>
Option.bind (f_L_move h l1 x78 x79 x80 l3) fun w => match w with
| (x81, h82) =>
Option.bind (scI L xs (l4 + 1)) fun x83 =>
Option.bind (scI L xs (l4 + 2)) fun x84 =>
Option.bind (scI L xs (l4 + 3)) fun x85 =>
Option.bind (f_X9_move h82 l2 x83 x84 x85) fun w => match w with
| (x86, h87) =>
Option.bind (f_X9_thrown h87 l2) fun x88 =>
if x88 = x81 then
if x81 = 0 then
Option.bind (ldJ h87 l3 0) fun x90 =>
if (lg_cmp x90 x86.toInt64) = 0 then
f_L_law_23 L xs l1 l2 l3 n h87 (l4 + 5)
else
none
else
f_L_law_23 L xs l1 l2 l3 n h87 (l4 + 5)
else
none
else
if x2 = 8 then
Option.bind (scI L xs (l4 + 1)) fun x91 =>
Option.bind (scI L xs (l4 + 2)) fun x92 =>
Option.bind (f_L_swap h l1 x91 x92 l3) fun w => match w with
| (x93, h94) =>
Option.bind (scI L xs (l4 + 1)) fun x95 =>
Option.bind (scI L xs (l4 + 2)) fun x96 =>
Option.bind (f_X9_swap h94 l2 x95 x96) fun w => match w with
| (x97, h98) =>
Option.bind (f_X9_thrown h98 l2) fun x99 =>
if x99 = x93 then
if x93 = 0 then
Option.bind (ldJ h98 l3 0) fun x101 =>
if (lg_cmp x101 x97.toInt64) = 0 then
f_L_law_23 L xs l1 l2 l3 n h98 (l4 + 5)
else
none
else
f_L_law_23 L xs l1 l2 l3 n h98 (l4 + 5)
else
none
else
if x2 = 9 then
Option.bind (scI L xs (l4 + 1)) fun x102 =>
Option.bind (scI L xs (l4 + 2)) fun x103 =>
Option.bind (scI L xs (l4 + 3)) fun x104 =>
Option.bind (f_L_turn h l1 x102 x103 x104 l3) fun w => match w with
| (x105, h106) =>
Option.bind (scI L xs (l4 + 1)) fun x107 =>
Option.bind (scI L xs (l4 + 2)) fun x108 =>
Option.bind (scI L xs (l4 + 3)) fun x109 =>
Option.bind (f_X9_turn h106 l2 x107 x108 x109) fun w => match w with
| (x110, h111) =>
Option.bind (f_X9_thrown h111 l2) fun x112 =>
if x112 = x105 then
if x105 = 0 then
Option.bind (ldJ h111 l3 0) fun x114 =>
if (lg_cmp x114 x110.toInt64) = 0 then
f_L_law_23 L xs l1 l2 l3 n h111 (l4 + 5)
else
none
else
f_L_law_23 L xs l1 l2 l3 n h111 (l4 + 5)
else
none
else
if x2 = 10 then
Option.bind (scI L xs (l4 + 1)) fun x115 =>
Option.bind (scI L xs (l4 + 2)) fun x116 =>
Option.bind (scI L xs (l4 + 3)) fun x117 =>
Option.bind (scI L xs (l4 + 4)) fun x118 =>
Option.bind (f_L_tails h l1 x115 x116 x117 x118 l3) fun w => match w with
| (x119, h120) =>
Option.bind (scI L xs (l4 + 1)) fun x121 =>
Option.bind (scI L xs (l4 + 2)) fun x122 =>
Option.bind (scI L xs (l4 + 3)) fun x123 =>
Option.bind (scI L xs (l4 + 4)) fun x124 =>
Option.bind (f_X9_tails h120 l2 x121 x122 x123 x124) fun w => match w with
| (x125, h126) =>
Option.bind (f_X9_thrown h126 l2) fun x127 =>
if x127 = x119 then
if x119 = 0 then
Option.bind (ldJ h126 l3 0) fun x129 =>
if (lg_cmp x129 x125.toInt64) = 0 then
f_L_law_23 L xs l1 l2 l3 n h126 (l4 + 5)
else
none
else
f_L_law_23 L xs l1 l2 l3 n h126 (l4 + 5)
else
none
else
if x2 = 11 then
Option.bind (scI L xs (l4 + 1)) fun x130 =>
Option.bind (scI L xs (l4 + 2)) fun x131 =>
Option.bind (scI L xs (l4 + 3)) fun x132 =>
Option.bind (f_L_fact h l1 x130 x131 x132 l3) fun w => match w with
| (x133, h134) =>
Option.bind (scI L xs (l4 + 1)) fun x135 =>
Option.bind (scI L xs (l4 + 2)) fun x136 =>
Option.bind (scI L xs (l4 + 3)) fun x137 =>
Option.bind (f_X9_fact h134 l2 x135 x136 x137) fun w => match w with
| (x138, h139) =>
Option.bind (f_X9_thrown h139 l2) fun x140 =>
if x140 = x133 then
if x133 = 0 then
Option.bind (ldJ h139 l3 0) fun x142 =>
if (lg_cmp x142 x138.toInt64) = 0 then
f_L_law_23 L xs l1 l2 l3 n h139 (l4 + 5)
else
none
else
f_L_law_23 L xs l1 l2 l3 n h139 (l4 + 5)
else
none
else
if x2 = 12 then
Option.bind (scI L xs (l4 + 1)) fun x143 =>
Option.bind (scI L xs (l4 + 2)) fun x144 =>
Option.bind (scI L xs (l4 + 3)) fun x145 =>
Option.bind (f_L_listFact h l1 x143 x144 x145 l3) fun w => match w with
| (x146, h147) =>
Option.bind (scI L xs (l4 + 1)) fun x148 =>
Option.bind (scI L xs (l4 + 2)) fun x149 =>
Option.bind (scI L xs (l4 + 3)) fun x150 =>
Option.bind (f_X9_listFact h147 l2 x148 x149 x150) fun w => match w with
| (x151, h152) =>
Option.bind (f_X9_thrown h152 l2) fun x153 =>
if x153 = x146 then
if x146 = 0 then
Option.bind (ldJ h152 l3 0) fun x155 =>
if (lg_cmp x155 x151.toInt64) = 0 then
f_L_law_23 L xs l1 l2 l3 n h152 (l4 + 5)
else
none
else
f_L_law_23 L xs l1 l2 l3 n h152 (l4 + 5)
else
none
else
if x2 = 13 then
Option.bind (scI L xs (l4 + 1)) fun x156 =>
Option.bind (scI L xs (l4 + 2)) fun x157 =>
Option.bind (f_L_link h l1 x156 x157 l3) fun w => match w with
| (x158, h159) =>
Option.bind (scI L xs (l4 + 1)) fun x160 =>
Option.bind (scI L xs (l4 + 2)) fun x161 =>
Option.bind (f_X9_link h159 l2 x160 x161) fun w => match w with
| (x162, h163) =>
Option.bind (f_X9_thrown h163 l2) fun x164 =>
if x164 = x158 then
if x158 = 0 then
Option.bind (ldJ h163 l3 0) fun x166 =>
if (lg_cmp x166 x162.toInt64) = 0 then
f_L_law_23 L xs l1 l2 l3 n h163 (l4 + 5)
else
none
else
f_L_law_23 L xs l1 l2 l3 n h163 (l4 + 5)
else
none
else
if x2 = 14 then
Option.bind (scI L xs (l4 + 1)) fun x167 =>
Option.bind (scI L xs (l4 + 2)) fun x168 =>
Option.bind (f_L_freeze h l1 x167 x168 l3) fun w => match w with
| (x169, h170) =>
Option.bind (scI L xs (l4 + 1)) fun x171 =>
Option.bind (scI L xs (l4 + 2)) fun x172 =>
Option.bind (f_X9_freeze h170 l2 x171 x172) fun w => match w with
| (x173, h174) =>
Option.bind (f_X9_thrown h174 l2) fun x175 =>
if x175 = x169 then
if x169 = 0 then
Option.bind (ldJ h174 l3 0) fun x177 =>
if (lg_cmp x177 x173.toInt64) = 0 then
f_L_law_23 L xs l1 l2 l3 n h174 (l4 + 5)
else
none
else
f_L_law_23 L xs l1 l2 l3 n h174 (l4 + 5)
else
none
else
if x2 = 15 then
Option.bind (f_L_begin h l1) fun w => match w with
| (x178, h179) =>
Option.bind (f_X9_begin h179 l2) fun h181 =>
Option.bind (f_X9_thrown h181 l2) fun x182 =>
if x182 = x178 then
f_L_law_23 L xs l1 l2 l3 n h181 (l4 + 5)
else
none
else
if x2 = 16 then
Option.bind (f_L_end h l1 l3) fun w => match w with
| (x184, h185) =>
Option.bind (f_X9_end h185 l2) fun w => match w with
| (x186, h187) =>
Option.bind (f_X9_thrown h187 l2) fun x188 =>
if x188 = x184 then
if x184 = 0 then
Option.bind (ldJ h187 l3 0) fun x190 =>
if (lg_cmp x190 x186.toInt64) = 0 then
f_L_law_23 L xs l1 l2 l3 n h187 (l4 + 5)
else
none
else
f_L_law_23 L xs l1 l2 l3 n h187 (l4 + 5)
else
none
else
if x2 = 17 then
Option.bind (f_L_drop h l1 l3) fun w => match w with
| (x191, h192) =>
Option.bind (f_X9_drop h192 l2) fun w => match w with
| (x193, h194) =>
Option.bind (f_X9_thrown h194 l2) fun x195 =>
if x195 = x191 then
if x191 = 0 then
Option.bind (ldJ h194 l3 0) fun x197 =>
if (lg_cmp x197 x193.toInt64) = 0 then
f_L_law_23 L xs l1 l2 l3 n h194 (l4 + 5)
else
none
else
f_L_law_23 L xs l1 l2 l3 n h194 (l4 + 5)
else
none
else
if x2 = 18 then
Option.bind (f_L_undo h l1 l3) fun w => match w with
| (x198, h199) =>
Option.bind (f_X9_undo h199 l2) fun w => match w with
| (x200, h201) =>
Option.bind (f_X9_thrown h201 l2) fun x202 =>
if x202 = x198 then
if x198 = 0 then
Option.bind (ldJ h201 l3 0) fun x204 =>
if (lg_cmp x204 x200.toInt64) = 0 then
f_L_law_23 L xs l1 l2 l3 n h201 (l4 + 5)
else
none
else
f_L_law_23 L xs l1 l2 l3 n h201 (l4 + 5)
else
none
else
if x2 = 19 then
Option.bind (scI L xs (l4 + 1)) fun x205 =>
Option.bind (scI L xs (l4 + 2)) fun x206 =>
Option.bind (f_L_shadow h l1 x205 x206 l3) fun w => match w with
| (x207, h208) =>
Option.bind (scI L xs (l4 + 1)) fun x209 =>
Option.bind (scI L xs (l4 + 2)) fun x210 =>
Option.bind (f_X9_shadow h208 l2 x209 x210) fun w => match w with
| (x211, h212) =>
Option.bind (f_X9_thrown h212 l2) fun x213 =>
if x213 = x207 then
if x207 = 0 then
Option.bind (ldJ h212 l3 0) fun x215 =>
if (lg_cmp x215 x211) = 0 then
f_L_law_23 L xs l1 l2 l3 n h212 (l4 + 5)
else
none
else
f_L_law_23 L xs l1 l2 l3 n h212 (l4 + 5)
else
none
else
if x2 = 20 then
Option.bind (scI L xs (l4 + 1)) fun x216 =>
Option.bind (scI L xs (l4 + 2)) fun x217 =>
Option.bind (f_L_listShadow h l1 x216 x217 l3) fun w => match w with
| (x218, h219) =>
Option.bind (scI L xs (l4 + 1)) fun x220 =>
Option.bind (scI L xs (l4 + 2)) fun x221 =>
Option.bind (f_X9_listShadow h219 l2 x220 x221) fun w => match w with
| (x222, h223) =>
Option.bind (f_X9_thrown h223 l2) fun x224 =>
if x224 = x218 then
if x218 = 0 then
Option.bind (ldJ h223 l3 0) fun x226 =>
if (lg_cmp x226 x222) = 0 then
f_L_law_23 L xs l1 l2 l3 n h223 (l4 + 5)
else
none
else
f_L_law_23 L xs l1 l2 l3 n h223 (l4 + 5)
else
none
else
if x2 = 21 then
Option.bind (scI L xs (l4 + 1)) fun x227 =>
Option.bind (scI L xs (l4 + 2)) fun x228 =>
Option.bind (f_L_where h l1 x227 x228 l3) fun w => match w with
| (x229, h230) =>
Option.bind (scI L xs (l4 + 1)) fun x231 =>
Option.bind (scI L xs (l4 + 2)) fun x232 =>
Option.bind (f_X9_where h230 l2 x231 x232) fun w => match w with
| (x233, h234) =>
Option.bind (f_X9_thrown h234 l2) fun x235 =>
if x235 = x229 then
if x229 = 0 then
Option.bind (ldJ h234 l3 0) fun x237 =>
if (lg_cmp x237 x233.toInt64) = 0 then
f_L_law_23 L xs l1 l2 l3 n h234 (l4 + 5)
else
none
else
f_L_law_23 L xs l1 l2 l3 n h234 (l4 + 5)
else
none
else
if x2 = 22 then
Option.bind (scI L xs (l4 + 1)) fun x238 =>
Option.bind (scI L xs (l4 + 2)) fun x239 =>
Option.bind (f_L_at h l1 x238 x239 l3) fun w => match w with
| (x240, h241) =>
Option.bind (scI L xs (l4 + 1)) fun x242 =>
Option.bind (scI L xs (l4 + 2)) fun x243 =>
Option.bind (f_X9_at h241 l2 x242 x243) fun w => match w with
| (x244, h245) =>
Option.bind (f_X9_thrown h245 l2) fun x246 =>
if x246 = x240 then
if x240 = 0 then
Option.bind (ldJ h245 l3 0) fun x248 =>
if (lg_cmp x248 x244.toInt64) = 0 then
f_L_law_23 L xs l1 l2 l3 n h245 (l4 + 5)
else
none
else
f_L_law_23 L xs l1 l2 l3 n h245 (l4 + 5)
else
none
else
if x2 = 23 then
Option.bind (scI L xs (l4 + 1)) fun x249 =>
Option.bind (f_X8_worked h l1 x249) fun x250 =>
Option.bind (scI L xs (l4 + 1)) fun x252 =>
Option.bind (f_X9_worked h l2 x252) fun w => match w with
| (x253, h254) =>
if x250 = x253 then
f_L_law_23 L xs l1 l2 l3 n h254 (l4 + 5)
else
none
else
if x2 = 24 then
Option.bind (scI L xs (l4 + 1)) fun x255 =>
Option.bind (f_X8_order h l1 x255) fun x256 =>
Option.bind (scI L xs (l4 + 1)) fun x258 =>
Option.bind (f_X9_order h l2 x258) fun w => match w with
| (x259, h260) =>
if x256 = x259 then
f_L_law_23 L xs l1 l2 l3 n h260 (l4 + 5)
else
none
else
if x2 = 25 then
Option.bind (scI L xs (l4 + 1)) fun x261 =>
Option.bind (f_X8_ring h l1 x261) fun x262 =>
Option.bind (scI L xs (l4 + 1)) fun x264 =>
Option.bind (f_X9_ring h l2 x264) fun w => match w with
| (x265, h266) =>
if x262 = x265 then
f_L_law_23 L xs l1 l2 l3 n h266 (l4 + 5)
else
none
else
if x2 = 26 then
Option.bind (scI L xs (l4 + 1)) fun x267 =>
Option.bind (f_L_cause h l1 x267 l3) fun w => match w with
| (x268, h269) =>
Option.bind (scI L xs (l4 + 1)) fun x270 =>
Option.bind (f_X9_cause h269 l2 x270) fun w => match w with
| (x271, h272) =>
Option.bind (f_X9_thrown h272 l2) fun x273 =>
if x273 = x268 then
if x268 = 0 then
Option.bind (ldJ h272 l3 0) fun x275 =>
if (lg_cmp x275 x271.toInt64) = 0 then
f_L_law_23 L xs l1 l2 l3 n h272 (l4 + 5)
else
none
else
f_L_law_23 L xs l1 l2 l3 n h272 (l4 + 5)
else
none
else
if x2 = 27 then
Option.bind (scI L xs (l4 + 1)) fun x276 =>
Option.bind (f_L_count h l1 x276 l3) fun w => match w with
| (x277, h278) =>
Option.bind (scI L xs (l4 + 1)) fun x279 =>
Option.bind (f_X9_count h278 l2 x279) fun w => match w with
| (x280, h281) =>
Option.bind (f_X9_thrown h281 l2) fun x282 =>
if x282 = x277 then
if x277 = 0 then
Option.bind (ldJ h281 l3 0) fun x284 =>
if (lg_cmp x284 x280.toInt64) = 0 then
f_L_law_23 L xs l1 l2 l3 n h281 (l4 + 5)
else
none
else
f_L_law_23 L xs l1 l2 l3 n h281 (l4 + 5)
else
none
else
if x2 = 28 then
Option.bind (f_X8_isSame h l1) fun w => match w with
| (x285, h286) =>
Option.bind (f_X9_isSame h286 l2) fun w => match w with
| (x287, h288) =>
if x285 = x287 then
f_L_law_23 L xs l1 l2 l3 n h288 (l4 + 5)
else
none
else
f_L_law_23 L xs l1 l2 l3 n h (l4 + 5)
def f_L_law (L : Nat) (xs : Nat → Int32) (h0 : AH) : Option AH :=
Option.bind (some (nw h0 8 0)) fun h1 =>
Option.bind (f_X8_init h1 (aN h0)) fun h3 =>
Option.bind (some (nw h3 9 0)) fun h4 =>
Option.bind (f_X9_init h4 (aN h3)) fun h6 =>
Option.bind (some (nw h6 11 1)) fun h7 =>
f_L_law_23 L xs (aN h0) (aN h3) (aN h6) 513 h7 0
set_option maxRecDepth 100000 in
set_option maxHeartbeats 40000000 in
theorem s_L_law_23 {p : Program} {l : Launch} {e : Env} {s : State} {m : MethodId} {below : List Frame} {meth : Method} {c : Code} {G : GT} (O : OkC p l s m #[Value.ref (gS G 0)] meth c G cL_law 8 RL) {L : Nat} {xs : Nat → Int32} (hX : scX G L xs s) {l1 l2 l3 : Nat} {wh : AH} (kk : AW p l e room_1 s m #[Value.ref (gS G 0)] below meth c G 8 (lw_Z below #[Value.ref (gS G 0)] s) wh 601024 7293034 1880 [] []) : ∀ (n kc nc : Nat), kc + 15 * n ≤ 601024 → nc + 836 * n ≤ 7293034 → ∀ (h : AH) (l4 : Int32), f_L_law_23 L xs l1 l2 l3 n h l4 = some wh → AW p l e room_1 s m #[Value.ref (gS G 0)] below meth c G 8 (lw_Z below #[Value.ref (gS G 0)] s) h kc nc 23 [(0, .retAddr 0), (1, .ref l1), (2, .ref l2), (3, .ref l3), (4, .int l4)] [] := by
  intro n
  induction n with
  | zero =>
    intro kc nc hk hn h l4 hf
    simp [f_L_law_23] at hf
  | succ n ih =>
    intro kc nc hk hn h l4 hf
    unfold f_L_law_23 at hf
    refine r_iload O 4 dL_law_23 rfl ?_
    refine r_aload_n O 0 dL_law_25 rfl (Or.inr ⟨_, rfl⟩) ?_
    refine r_sclen O hX dL_law_26 ?_
    refine r_iconst O (v := 5) dL_law_27 (by decide) ?_
    refine r_isub O dL_law_28 ?_
    by_cases hc : ((nI L) - 5) < l4
    · rw [if_pos hc] at hf
      refine r_icmp_gt_t (tgt := 1880) O dL_law_29 (by decide) hc ?_
      obtain rfl := Option.some.inj hf
      refine AW.widen (k' := 601024) (n' := 7293034) (by omega) (by omega) (AW.sub [] rfl ?_)
      exact kk
    · rw [if_neg hc] at hf
      refine r_icmp_gt_f (tgt := 1880) O dL_law_29 (by decide) hc ?_
      refine r_aload_n O 0 dL_law_32 rfl (Or.inr ⟨_, rfl⟩) ?_
      refine r_iload O 4 dL_law_33 rfl ?_
      obtain ⟨x1, ex1, hf⟩ := bnd hf
      refine r_scI O hX ex1 dL_law_35 ?_
      refine r_bipush O (v := 31) dL_law_36 (by decide) ?_
      refine r_iand O dL_law_38 ?_
      obtain ⟨x2, ex2, hf⟩ := bnd hf
      refine r_nmI (Option.some.inj ex2) ?_
      by_cases hc : x2 = 0
      · rw [if_pos hc] at hf
        refine r_table_in (off := 129) (tgt := 168) O dL_law_39 (by (rw [hc]; decide)) (by (rw [hc]; decide)) (by (rw [hc]; rfl)) (by decide) ?_
        refine r_aload_n O 1 dL_law_168 rfl (Or.inl rfl) ?_
        refine r_aload_n O 0 dL_law_169 rfl (Or.inr ⟨_, rfl⟩) ?_
        refine r_iload O 4 dL_law_170 rfl ?_
        refine r_iconst O (v := 1) dL_law_172 (by decide) ?_
        refine r_iadd O dL_law_173 ?_
        obtain ⟨x3, ex3, hf⟩ := bnd hf
        refine r_scI O hX ex3 dL_law_174 ?_
        refine r_aload_n O 0 dL_law_175 rfl (Or.inr ⟨_, rfl⟩) ?_
        refine r_iload O 4 dL_law_176 rfl ?_
        refine r_iconst O (v := 2) dL_law_178 (by decide) ?_
        refine r_iadd O dL_law_179 ?_
        obtain ⟨x4, ex4, hf⟩ := bnd hf
        refine r_scI O hX ex4 dL_law_180 ?_
        refine r_aload_n O 0 dL_law_181 rfl (Or.inr ⟨_, rfl⟩) ?_
        refine r_iload O 4 dL_law_182 rfl ?_
        refine r_iconst O (v := 3) dL_law_184 (by decide) ?_
        refine r_iadd O dL_law_185 ?_
        obtain ⟨x5, ex5, hf⟩ := bnd hf
        refine r_scI O hX ex5 dL_law_186 ?_
        refine r_aload_n O 0 dL_law_187 rfl (Or.inr ⟨_, rfl⟩) ?_
        refine r_iload O 4 dL_law_188 rfl ?_
        refine r_iconst O (v := 4) dL_law_190 (by decide) ?_
        refine r_iadd O dL_law_191 ?_
        obtain ⟨x6, ex6, hf⟩ := bnd hf
        refine r_scI O hX ex6 dL_law_192 ?_
        refine r_aload_n O 3 dL_law_193 rfl (Or.inl rfl) ?_
        obtain ⟨⟨x7, h8⟩, ex7, hf⟩ := bnd hf
        dsimp only at hf
        refine r_callSW (av := [.ref l1, .int x3, .int x4, .int x5, .int x6, .ref l3]) (st := []) O (c_L_thing ex7) mf_L_thing ml_L_100 ms_L_thing (by decide) (Nat.le_of_ble_eq_true rfl) ⟨by show (kc + 2) ≤ 601024; omega, by show (nc + 12) ≤ 7293034; omega⟩ dL_law_194 ?_
        refine r_istore O [(5, .int x7), (0, .retAddr 0), (1, .ref l1), (2, .ref l2), (3, .ref l3), (4, .int l4)] dL_law_197 (by decide) rfl ?_
        refine r_aload_n O 3 dL_law_199 rfl (Or.inl rfl) ?_
        refine r_aload_n O 1 dL_law_200 rfl (Or.inr ⟨_, rfl⟩) ?_
        refine r_iload O 5 dL_law_201 rfl ?_
        refine r_iconst O (v := 1) dL_law_203 (by decide) ?_
        refine r_iadd O dL_law_204 ?_
        obtain ⟨x9, ex9, hf⟩ := bnd hf
        refine r_scI O hX ex9 dL_law_205 ?_
        refine r_aload_n O 1 dL_law_206 rfl (Or.inr ⟨_, rfl⟩) ?_
        refine r_iload O 5 dL_law_207 rfl ?_
        refine r_iconst O (v := 2) dL_law_209 (by decide) ?_
        refine r_iadd O dL_law_210 ?_
        obtain ⟨x10, ex10, hf⟩ := bnd hf
        refine r_scI O hX ex10 dL_law_211 ?_
        refine r_aload_n O 1 dL_law_212 rfl (Or.inr ⟨_, rfl⟩) ?_
        refine r_iload O 5 dL_law_213 rfl ?_
        refine r_iconst O (v := 3) dL_law_215 (by decide) ?_
        refine r_iadd O dL_law_216 ?_
        obtain ⟨x11, ex11, hf⟩ := bnd hf
        refine r_scI O hX ex11 dL_law_217 ?_
        refine r_aload_n O 1 dL_law_218 rfl (Or.inr ⟨_, rfl⟩) ?_
        refine r_iload O 5 dL_law_219 rfl ?_
        refine r_iconst O (v := 4) dL_law_221 (by decide) ?_
        refine r_iadd O dL_law_222 ?_
        obtain ⟨x12, ex12, hf⟩ := bnd hf
        refine r_scI O hX ex12 dL_law_223 ?_
        obtain ⟨⟨x13, h14⟩, ex13, hf⟩ := bnd hf
        dsimp only at hf
        refine r_callV (av := [.int x9, .int x10, .int x11, .int x12]) (st := []) O (c_X9_thing ex13) mf_X9_thing cf9 (kd_X9_thing ex13) ml_L_105 mi_X9_thing mv_X9_thing (by decide) (Nat.le_of_ble_eq_true rfl) ⟨by show (kc + 2) ≤ 601024; omega, by show (nc + 12) ≤ 7293034; omega⟩ dL_law_224 ?_
        refine r_istore O [(6, .int x13), (5, .int x7), (0, .retAddr 0), (1, .ref l1), (2, .ref l2), (3, .ref l3), (4, .int l4)] dL_law_227 (by decide) rfl ?_
        refine r_aload_n O 4 dL_law_229 rfl (Or.inl rfl) ?_
        obtain ⟨x15, ex15, hf⟩ := bnd hf
        refine r_callV (av := []) (st := []) O (c_X9_thrown ex15) mf_X9_thrown cf9 (kd_X9_thrown ex15) ml_L_106 mi_X9_thrown mv_X9_thrown (by decide) (Nat.le_of_ble_eq_true rfl) ⟨by show (kc + 2) ≤ 601024; omega, by show (nc + 12) ≤ 7293034; omega⟩ dL_law_230 ?_
        refine r_iload O 1 dL_law_233 rfl ?_
        by_cases hc : x15 = x7
        · rw [if_pos hc] at hf
          refine r_icmp_eq_t (tgt := 240) O dL_law_235 (by decide) hc ?_
          refine r_iload O 1 dL_law_240 rfl ?_
          by_cases hc : x7 = 0
          · rw [if_pos hc] at hf
            refine r_if_ne_f (tgt := 257) O dL_law_242 (by decide) hc ?_
            refine r_aload_n O 5 dL_law_245 rfl (Or.inl rfl) ?_
            refine r_iconst O (v := 0) dL_law_246 (by decide) ?_
            obtain ⟨x17, ex17, hf⟩ := bnd hf
            refine r_ldJ O ex17 dL_law_247 ?_
            refine r_iload O 0 dL_law_248 rfl ?_
            refine r_i2l O dL_law_250 ?_
            refine r_lcmp O dL_law_251 ?_
            by_cases hc : (lg_cmp x17 x13.toInt64) = 0
            · rw [if_pos hc] at hf
              refine r_if_eq_t (tgt := 257) O dL_law_252 (by decide) hc ?_
              refine r_goto (tgt := 1874) O dL_law_257 (by decide) ?_
              refine r_iinc O 6 [(4, .int (l4 + 5)), (6, .int x13), (5, .int x7), (0, .retAddr 0), (1, .ref l1), (2, .ref l2), (3, .ref l3)] dL_law_1874 rfl rfl (by decide) rfl ?_
              refine r_goto (tgt := 23) O dL_law_1877 (by decide) ?_
              refine AW.widen (k' := kc + 15) (n' := nc + 836) (by omega) (by omega) (AW.sub [3, 4, 5, 6, 0] rfl ?_)
              exact ih _ _ (by omega) (by omega) _ _ hf
            · rw [if_neg hc] at hf
              refine r_if_eq_f (tgt := 257) O dL_law_252 (by decide) hc ?_
              refine r_iconst O (v := 0) dL_law_255 (by decide) ?_
              cases hf
          · rw [if_neg hc] at hf
            refine r_if_ne_t (tgt := 257) O dL_law_242 (by decide) hc ?_
            refine r_goto (tgt := 1874) O dL_law_257 (by decide) ?_
            refine r_iinc O 6 [(4, .int (l4 + 5)), (6, .int x13), (5, .int x7), (0, .retAddr 0), (1, .ref l1), (2, .ref l2), (3, .ref l3)] dL_law_1874 rfl rfl (by decide) rfl ?_
            refine r_goto (tgt := 23) O dL_law_1877 (by decide) ?_
            refine AW.widen (k' := kc + 15) (n' := nc + 836) (by omega) (by omega) (AW.sub [3, 4, 5, 6, 0] rfl ?_)
            exact ih _ _ (by omega) (by omega) _ _ hf
        · rw [if_neg hc] at hf
          refine r_icmp_eq_f (tgt := 240) O dL_law_235 (by decide) hc ?_
          refine r_iconst O (v := 0) dL_law_238 (by decide) ?_
          cases hf
      · rw [if_neg hc] at hf
        have hn168 := hc
        by_cases hc : x2 = 1
        · rw [if_pos hc] at hf
          refine r_table_in (off := 221) (tgt := 260) O dL_law_39 (by (rw [hc]; decide)) (by (rw [hc]; decide)) (by (rw [hc]; rfl)) (by decide) ?_
          refine r_aload_n O 1 dL_law_260 rfl (Or.inl rfl) ?_
          refine r_aload_n O 0 dL_law_261 rfl (Or.inr ⟨_, rfl⟩) ?_
          refine r_iload O 4 dL_law_262 rfl ?_
          refine r_iconst O (v := 1) dL_law_264 (by decide) ?_
          refine r_iadd O dL_law_265 ?_
          obtain ⟨x18, ex18, hf⟩ := bnd hf
          refine r_scI O hX ex18 dL_law_266 ?_
          refine r_aload_n O 0 dL_law_267 rfl (Or.inr ⟨_, rfl⟩) ?_
          refine r_iload O 4 dL_law_268 rfl ?_
          refine r_iconst O (v := 2) dL_law_270 (by decide) ?_
          refine r_iadd O dL_law_271 ?_
          obtain ⟨x19, ex19, hf⟩ := bnd hf
          refine r_scI O hX ex19 dL_law_272 ?_
          refine r_aload_n O 3 dL_law_273 rfl (Or.inl rfl) ?_
          obtain ⟨⟨x20, h21⟩, ex20, hf⟩ := bnd hf
          dsimp only at hf
          refine r_callSW (av := [.ref l1, .int x18, .int x19, .ref l3]) (st := []) O (c_L_list ex20) mf_L_list ml_L_109 ms_L_list (by decide) (Nat.le_of_ble_eq_true rfl) ⟨by show (kc + 2) ≤ 601024; omega, by show (nc + 12) ≤ 7293034; omega⟩ dL_law_274 ?_
          refine r_istore O [(5, .int x20), (0, .retAddr 0), (1, .ref l1), (2, .ref l2), (3, .ref l3), (4, .int l4)] dL_law_277 (by decide) rfl ?_
          refine r_aload_n O 3 dL_law_279 rfl (Or.inl rfl) ?_
          refine r_aload_n O 1 dL_law_280 rfl (Or.inr ⟨_, rfl⟩) ?_
          refine r_iload O 5 dL_law_281 rfl ?_
          refine r_iconst O (v := 1) dL_law_283 (by decide) ?_
          refine r_iadd O dL_law_284 ?_
          obtain ⟨x22, ex22, hf⟩ := bnd hf
          refine r_scI O hX ex22 dL_law_285 ?_
          refine r_aload_n O 1 dL_law_286 rfl (Or.inr ⟨_, rfl⟩) ?_
          refine r_iload O 5 dL_law_287 rfl ?_
          refine r_iconst O (v := 2) dL_law_289 (by decide) ?_
          refine r_iadd O dL_law_290 ?_
          obtain ⟨x23, ex23, hf⟩ := bnd hf
          refine r_scI O hX ex23 dL_law_291 ?_
          obtain ⟨⟨x24, h25⟩, ex24, hf⟩ := bnd hf
          dsimp only at hf
          refine r_callV (av := [.int x22, .int x23]) (st := []) O (c_X9_list ex24) mf_X9_list cf9 (kd_X9_list ex24) ml_L_112 mi_X9_list mv_X9_list (by decide) (Nat.le_of_ble_eq_true rfl) ⟨by show (kc + 2) ≤ 601024; omega, by show (nc + 12) ≤ 7293034; omega⟩ dL_law_292 ?_
          refine r_istore O [(6, .int x24), (5, .int x20), (0, .retAddr 0), (1, .ref l1), (2, .ref l2), (3, .ref l3), (4, .int l4)] dL_law_295 (by decide) rfl ?_
          refine r_aload_n O 4 dL_law_297 rfl (Or.inl rfl) ?_
          obtain ⟨x26, ex26, hf⟩ := bnd hf
          refine r_callV (av := []) (st := []) O (c_X9_thrown ex26) mf_X9_thrown cf9 (kd_X9_thrown ex26) ml_L_106 mi_X9_thrown mv_X9_thrown (by decide) (Nat.le_of_ble_eq_true rfl) ⟨by show (kc + 2) ≤ 601024; omega, by show (nc + 12) ≤ 7293034; omega⟩ dL_law_298 ?_
          refine r_iload O 1 dL_law_301 rfl ?_
          by_cases hc : x26 = x20
          · rw [if_pos hc] at hf
            refine r_icmp_eq_t (tgt := 308) O dL_law_303 (by decide) hc ?_
            refine r_iload O 1 dL_law_308 rfl ?_
            by_cases hc : x20 = 0
            · rw [if_pos hc] at hf
              refine r_if_ne_f (tgt := 325) O dL_law_310 (by decide) hc ?_
              refine r_aload_n O 5 dL_law_313 rfl (Or.inl rfl) ?_
              refine r_iconst O (v := 0) dL_law_314 (by decide) ?_
              obtain ⟨x28, ex28, hf⟩ := bnd hf
              refine r_ldJ O ex28 dL_law_315 ?_
              refine r_iload O 0 dL_law_316 rfl ?_
              refine r_i2l O dL_law_318 ?_
              refine r_lcmp O dL_law_319 ?_
              by_cases hc : (lg_cmp x28 x24.toInt64) = 0
              · rw [if_pos hc] at hf
                refine r_if_eq_t (tgt := 325) O dL_law_320 (by decide) hc ?_
                refine r_goto (tgt := 1874) O dL_law_325 (by decide) ?_
                refine r_iinc O 6 [(4, .int (l4 + 5)), (6, .int x24), (5, .int x20), (0, .retAddr 0), (1, .ref l1), (2, .ref l2), (3, .ref l3)] dL_law_1874 rfl rfl (by decide) rfl ?_
                refine r_goto (tgt := 23) O dL_law_1877 (by decide) ?_
                refine AW.widen (k' := kc + 15) (n' := nc + 836) (by omega) (by omega) (AW.sub [3, 4, 5, 6, 0] rfl ?_)
                exact ih _ _ (by omega) (by omega) _ _ hf
              · rw [if_neg hc] at hf
                refine r_if_eq_f (tgt := 325) O dL_law_320 (by decide) hc ?_
                refine r_iconst O (v := 0) dL_law_323 (by decide) ?_
                cases hf
            · rw [if_neg hc] at hf
              refine r_if_ne_t (tgt := 325) O dL_law_310 (by decide) hc ?_
              refine r_goto (tgt := 1874) O dL_law_325 (by decide) ?_
              refine r_iinc O 6 [(4, .int (l4 + 5)), (6, .int x24), (5, .int x20), (0, .retAddr 0), (1, .ref l1), (2, .ref l2), (3, .ref l3)] dL_law_1874 rfl rfl (by decide) rfl ?_
              refine r_goto (tgt := 23) O dL_law_1877 (by decide) ?_
              refine AW.widen (k' := kc + 15) (n' := nc + 836) (by omega) (by omega) (AW.sub [3, 4, 5, 6, 0] rfl ?_)
              exact ih _ _ (by omega) (by omega) _ _ hf
          · rw [if_neg hc] at hf
            refine r_icmp_eq_f (tgt := 308) O dL_law_303 (by decide) hc ?_
            refine r_iconst O (v := 0) dL_law_306 (by decide) ?_
            cases hf
        · rw [if_neg hc] at hf
          have hn260 := hc
          by_cases hc : x2 = 2
          · rw [if_pos hc] at hf
            refine r_table_in (off := 289) (tgt := 328) O dL_law_39 (by (rw [hc]; decide)) (by (rw [hc]; decide)) (by (rw [hc]; rfl)) (by decide) ?_
            refine r_aload_n O 1 dL_law_328 rfl (Or.inl rfl) ?_
            refine r_aload_n O 0 dL_law_329 rfl (Or.inr ⟨_, rfl⟩) ?_
            refine r_iload O 4 dL_law_330 rfl ?_
            refine r_iconst O (v := 1) dL_law_332 (by decide) ?_
            refine r_iadd O dL_law_333 ?_
            obtain ⟨x29, ex29, hf⟩ := bnd hf
            refine r_scI O hX ex29 dL_law_334 ?_
            refine r_aload_n O 0 dL_law_335 rfl (Or.inr ⟨_, rfl⟩) ?_
            refine r_iload O 4 dL_law_336 rfl ?_
            refine r_iconst O (v := 2) dL_law_338 (by decide) ?_
            refine r_iadd O dL_law_339 ?_
            obtain ⟨x30, ex30, hf⟩ := bnd hf
            refine r_scI O hX ex30 dL_law_340 ?_
            refine r_aload_n O 3 dL_law_341 rfl (Or.inl rfl) ?_
            obtain ⟨⟨x31, h32⟩, ex31, hf⟩ := bnd hf
            dsimp only at hf
            refine r_callSW (av := [.ref l1, .int x29, .int x30, .ref l3]) (st := []) O (c_L_step ex31) mf_L_step ml_L_113 ms_L_step (by decide) (Nat.le_of_ble_eq_true rfl) ⟨by show (kc + 2) ≤ 601024; omega, by show (nc + 12) ≤ 7293034; omega⟩ dL_law_342 ?_
            refine r_istore O [(5, .int x31), (0, .retAddr 0), (1, .ref l1), (2, .ref l2), (3, .ref l3), (4, .int l4)] dL_law_345 (by decide) rfl ?_
            refine r_aload_n O 3 dL_law_347 rfl (Or.inl rfl) ?_
            refine r_aload_n O 1 dL_law_348 rfl (Or.inr ⟨_, rfl⟩) ?_
            refine r_iload O 5 dL_law_349 rfl ?_
            refine r_iconst O (v := 1) dL_law_351 (by decide) ?_
            refine r_iadd O dL_law_352 ?_
            obtain ⟨x33, ex33, hf⟩ := bnd hf
            refine r_scI O hX ex33 dL_law_353 ?_
            refine r_aload_n O 1 dL_law_354 rfl (Or.inr ⟨_, rfl⟩) ?_
            refine r_iload O 5 dL_law_355 rfl ?_
            refine r_iconst O (v := 2) dL_law_357 (by decide) ?_
            refine r_iadd O dL_law_358 ?_
            obtain ⟨x34, ex34, hf⟩ := bnd hf
            refine r_scI O hX ex34 dL_law_359 ?_
            obtain ⟨⟨x35, h36⟩, ex35, hf⟩ := bnd hf
            dsimp only at hf
            refine r_callV (av := [.int x33, .int x34]) (st := []) O (c_X9_step ex35) mf_X9_step cf9 (kd_X9_step ex35) ml_L_115 mi_X9_step mv_X9_step (by decide) (Nat.le_of_ble_eq_true rfl) ⟨by show (kc + 2) ≤ 601024; omega, by show (nc + 12) ≤ 7293034; omega⟩ dL_law_360 ?_
            refine r_istore O [(6, .int x35), (5, .int x31), (0, .retAddr 0), (1, .ref l1), (2, .ref l2), (3, .ref l3), (4, .int l4)] dL_law_363 (by decide) rfl ?_
            refine r_aload_n O 4 dL_law_365 rfl (Or.inl rfl) ?_
            obtain ⟨x37, ex37, hf⟩ := bnd hf
            refine r_callV (av := []) (st := []) O (c_X9_thrown ex37) mf_X9_thrown cf9 (kd_X9_thrown ex37) ml_L_106 mi_X9_thrown mv_X9_thrown (by decide) (Nat.le_of_ble_eq_true rfl) ⟨by show (kc + 2) ≤ 601024; omega, by show (nc + 12) ≤ 7293034; omega⟩ dL_law_366 ?_
            refine r_iload O 1 dL_law_369 rfl ?_
            by_cases hc : x37 = x31
            · rw [if_pos hc] at hf
              refine r_icmp_eq_t (tgt := 376) O dL_law_371 (by decide) hc ?_
              refine r_iload O 1 dL_law_376 rfl ?_
              by_cases hc : x31 = 0
              · rw [if_pos hc] at hf
                refine r_if_ne_f (tgt := 393) O dL_law_378 (by decide) hc ?_
                refine r_aload_n O 5 dL_law_381 rfl (Or.inl rfl) ?_
                refine r_iconst O (v := 0) dL_law_382 (by decide) ?_
                obtain ⟨x39, ex39, hf⟩ := bnd hf
                refine r_ldJ O ex39 dL_law_383 ?_
                refine r_iload O 0 dL_law_384 rfl ?_
                refine r_i2l O dL_law_386 ?_
                refine r_lcmp O dL_law_387 ?_
                by_cases hc : (lg_cmp x39 x35.toInt64) = 0
                · rw [if_pos hc] at hf
                  refine r_if_eq_t (tgt := 393) O dL_law_388 (by decide) hc ?_
                  refine r_goto (tgt := 1874) O dL_law_393 (by decide) ?_
                  refine r_iinc O 6 [(4, .int (l4 + 5)), (6, .int x35), (5, .int x31), (0, .retAddr 0), (1, .ref l1), (2, .ref l2), (3, .ref l3)] dL_law_1874 rfl rfl (by decide) rfl ?_
                  refine r_goto (tgt := 23) O dL_law_1877 (by decide) ?_
                  refine AW.widen (k' := kc + 15) (n' := nc + 836) (by omega) (by omega) (AW.sub [3, 4, 5, 6, 0] rfl ?_)
                  exact ih _ _ (by omega) (by omega) _ _ hf
                · rw [if_neg hc] at hf
                  refine r_if_eq_f (tgt := 393) O dL_law_388 (by decide) hc ?_
                  refine r_iconst O (v := 0) dL_law_391 (by decide) ?_
                  cases hf
              · rw [if_neg hc] at hf
                refine r_if_ne_t (tgt := 393) O dL_law_378 (by decide) hc ?_
                refine r_goto (tgt := 1874) O dL_law_393 (by decide) ?_
                refine r_iinc O 6 [(4, .int (l4 + 5)), (6, .int x35), (5, .int x31), (0, .retAddr 0), (1, .ref l1), (2, .ref l2), (3, .ref l3)] dL_law_1874 rfl rfl (by decide) rfl ?_
                refine r_goto (tgt := 23) O dL_law_1877 (by decide) ?_
                refine AW.widen (k' := kc + 15) (n' := nc + 836) (by omega) (by omega) (AW.sub [3, 4, 5, 6, 0] rfl ?_)
                exact ih _ _ (by omega) (by omega) _ _ hf
            · rw [if_neg hc] at hf
              refine r_icmp_eq_f (tgt := 376) O dL_law_371 (by decide) hc ?_
              refine r_iconst O (v := 0) dL_law_374 (by decide) ?_
              cases hf
          · rw [if_neg hc] at hf
            have hn328 := hc
            by_cases hc : x2 = 3
            · rw [if_pos hc] at hf
              refine r_table_in (off := 357) (tgt := 396) O dL_law_39 (by (rw [hc]; decide)) (by (rw [hc]; decide)) (by (rw [hc]; rfl)) (by decide) ?_
              refine r_aload_n O 1 dL_law_396 rfl (Or.inl rfl) ?_
              refine r_aload_n O 0 dL_law_397 rfl (Or.inr ⟨_, rfl⟩) ?_
              refine r_iload O 4 dL_law_398 rfl ?_
              refine r_iconst O (v := 1) dL_law_400 (by decide) ?_
              refine r_iadd O dL_law_401 ?_
              obtain ⟨x40, ex40, hf⟩ := bnd hf
              refine r_scI O hX ex40 dL_law_402 ?_
              refine r_aload_n O 3 dL_law_403 rfl (Or.inl rfl) ?_
              obtain ⟨⟨x41, h42⟩, ex41, hf⟩ := bnd hf
              dsimp only at hf
              refine r_callSW (av := [.ref l1, .int x40, .ref l3]) (st := []) O (c_L_maker ex41) mf_L_maker ml_L_116 ms_L_maker (by decide) (Nat.le_of_ble_eq_true rfl) ⟨by show (kc + 2) ≤ 601024; omega, by show (nc + 12) ≤ 7293034; omega⟩ dL_law_404 ?_
              refine r_istore O [(5, .int x41), (0, .retAddr 0), (1, .ref l1), (2, .ref l2), (3, .ref l3), (4, .int l4)] dL_law_407 (by decide) rfl ?_
              refine r_aload_n O 3 dL_law_409 rfl (Or.inl rfl) ?_
              refine r_aload_n O 1 dL_law_410 rfl (Or.inr ⟨_, rfl⟩) ?_
              refine r_iload O 5 dL_law_411 rfl ?_
              refine r_iconst O (v := 1) dL_law_413 (by decide) ?_
              refine r_iadd O dL_law_414 ?_
              obtain ⟨x43, ex43, hf⟩ := bnd hf
              refine r_scI O hX ex43 dL_law_415 ?_
              obtain ⟨⟨x44, h45⟩, ex44, hf⟩ := bnd hf
              dsimp only at hf
              refine r_callV (av := [.int x43]) (st := []) O (c_X9_maker ex44) mf_X9_maker cf9 (kd_X9_maker ex44) ml_L_119 mi_X9_maker mv_X9_maker (by decide) (Nat.le_of_ble_eq_true rfl) ⟨by show (kc + 2) ≤ 601024; omega, by show (nc + 12) ≤ 7293034; omega⟩ dL_law_416 ?_
              refine r_istore O [(6, .int x44), (5, .int x41), (0, .retAddr 0), (1, .ref l1), (2, .ref l2), (3, .ref l3), (4, .int l4)] dL_law_419 (by decide) rfl ?_
              refine r_aload_n O 4 dL_law_421 rfl (Or.inl rfl) ?_
              obtain ⟨x46, ex46, hf⟩ := bnd hf
              refine r_callV (av := []) (st := []) O (c_X9_thrown ex46) mf_X9_thrown cf9 (kd_X9_thrown ex46) ml_L_106 mi_X9_thrown mv_X9_thrown (by decide) (Nat.le_of_ble_eq_true rfl) ⟨by show (kc + 2) ≤ 601024; omega, by show (nc + 12) ≤ 7293034; omega⟩ dL_law_422 ?_
              refine r_iload O 1 dL_law_425 rfl ?_
              by_cases hc : x46 = x41
              · rw [if_pos hc] at hf
                refine r_icmp_eq_t (tgt := 432) O dL_law_427 (by decide) hc ?_
                refine r_iload O 1 dL_law_432 rfl ?_
                by_cases hc : x41 = 0
                · rw [if_pos hc] at hf
                  refine r_if_ne_f (tgt := 449) O dL_law_434 (by decide) hc ?_
                  refine r_aload_n O 5 dL_law_437 rfl (Or.inl rfl) ?_
                  refine r_iconst O (v := 0) dL_law_438 (by decide) ?_
                  obtain ⟨x48, ex48, hf⟩ := bnd hf
                  refine r_ldJ O ex48 dL_law_439 ?_
                  refine r_iload O 0 dL_law_440 rfl ?_
                  refine r_i2l O dL_law_442 ?_
                  refine r_lcmp O dL_law_443 ?_
                  by_cases hc : (lg_cmp x48 x44.toInt64) = 0
                  · rw [if_pos hc] at hf
                    refine r_if_eq_t (tgt := 449) O dL_law_444 (by decide) hc ?_
                    refine r_goto (tgt := 1874) O dL_law_449 (by decide) ?_
                    refine r_iinc O 6 [(4, .int (l4 + 5)), (6, .int x44), (5, .int x41), (0, .retAddr 0), (1, .ref l1), (2, .ref l2), (3, .ref l3)] dL_law_1874 rfl rfl (by decide) rfl ?_
                    refine r_goto (tgt := 23) O dL_law_1877 (by decide) ?_
                    refine AW.widen (k' := kc + 15) (n' := nc + 836) (by omega) (by omega) (AW.sub [3, 4, 5, 6, 0] rfl ?_)
                    exact ih _ _ (by omega) (by omega) _ _ hf
                  · rw [if_neg hc] at hf
                    refine r_if_eq_f (tgt := 449) O dL_law_444 (by decide) hc ?_
                    refine r_iconst O (v := 0) dL_law_447 (by decide) ?_
                    cases hf
                · rw [if_neg hc] at hf
                  refine r_if_ne_t (tgt := 449) O dL_law_434 (by decide) hc ?_
                  refine r_goto (tgt := 1874) O dL_law_449 (by decide) ?_
                  refine r_iinc O 6 [(4, .int (l4 + 5)), (6, .int x44), (5, .int x41), (0, .retAddr 0), (1, .ref l1), (2, .ref l2), (3, .ref l3)] dL_law_1874 rfl rfl (by decide) rfl ?_
                  refine r_goto (tgt := 23) O dL_law_1877 (by decide) ?_
                  refine AW.widen (k' := kc + 15) (n' := nc + 836) (by omega) (by omega) (AW.sub [3, 4, 5, 6, 0] rfl ?_)
                  exact ih _ _ (by omega) (by omega) _ _ hf
              · rw [if_neg hc] at hf
                refine r_icmp_eq_f (tgt := 432) O dL_law_427 (by decide) hc ?_
                refine r_iconst O (v := 0) dL_law_430 (by decide) ?_
                cases hf
            · rw [if_neg hc] at hf
              have hn396 := hc
              by_cases hc : x2 = 4
              · rw [if_pos hc] at hf
                refine r_table_in (off := 413) (tgt := 452) O dL_law_39 (by (rw [hc]; decide)) (by (rw [hc]; decide)) (by (rw [hc]; rfl)) (by decide) ?_
                refine r_aload_n O 1 dL_law_452 rfl (Or.inl rfl) ?_
                refine r_aload_n O 3 dL_law_453 rfl (Or.inl rfl) ?_
                obtain ⟨⟨x49, h50⟩, ex49, hf⟩ := bnd hf
                dsimp only at hf
                refine r_callSW (av := [.ref l1, .ref l3]) (st := []) O (c_L_open ex49) mf_L_open ml_L_120 ms_L_open (by decide) (Nat.le_of_ble_eq_true rfl) ⟨by show (kc + 1) ≤ 601024; omega, by show (nc + 6) ≤ 7293034; omega⟩ dL_law_454 ?_
                refine r_istore O [(5, .int x49), (0, .retAddr 0), (1, .ref l1), (2, .ref l2), (3, .ref l3), (4, .int l4)] dL_law_457 (by decide) rfl ?_
                refine r_aload_n O 3 dL_law_459 rfl (Or.inl rfl) ?_
                obtain ⟨⟨x51, h52⟩, ex51, hf⟩ := bnd hf
                dsimp only at hf
                refine r_callV (av := []) (st := []) O (c_X9_open ex51) mf_X9_open cf9 (kd_X9_open ex51) ml_L_123 mi_X9_open mv_X9_open (by decide) (Nat.le_of_ble_eq_true rfl) ⟨by show (kc + 1) ≤ 601024; omega, by show (nc + 6) ≤ 7293034; omega⟩ dL_law_460 ?_
                refine r_istore O [(6, .int x51), (5, .int x49), (0, .retAddr 0), (1, .ref l1), (2, .ref l2), (3, .ref l3), (4, .int l4)] dL_law_463 (by decide) rfl ?_
                refine r_aload_n O 4 dL_law_465 rfl (Or.inl rfl) ?_
                obtain ⟨x53, ex53, hf⟩ := bnd hf
                refine r_callV (av := []) (st := []) O (c_X9_thrown ex53) mf_X9_thrown cf9 (kd_X9_thrown ex53) ml_L_106 mi_X9_thrown mv_X9_thrown (by decide) (Nat.le_of_ble_eq_true rfl) ⟨by show (kc + 1) ≤ 601024; omega, by show (nc + 6) ≤ 7293034; omega⟩ dL_law_466 ?_
                refine r_iload O 1 dL_law_469 rfl ?_
                by_cases hc : x53 = x49
                · rw [if_pos hc] at hf
                  refine r_icmp_eq_t (tgt := 476) O dL_law_471 (by decide) hc ?_
                  refine r_iload O 1 dL_law_476 rfl ?_
                  by_cases hc : x49 = 0
                  · rw [if_pos hc] at hf
                    refine r_if_ne_f (tgt := 493) O dL_law_478 (by decide) hc ?_
                    refine r_aload_n O 5 dL_law_481 rfl (Or.inl rfl) ?_
                    refine r_iconst O (v := 0) dL_law_482 (by decide) ?_
                    obtain ⟨x55, ex55, hf⟩ := bnd hf
                    refine r_ldJ O ex55 dL_law_483 ?_
                    refine r_iload O 0 dL_law_484 rfl ?_
                    refine r_i2l O dL_law_486 ?_
                    refine r_lcmp O dL_law_487 ?_
                    by_cases hc : (lg_cmp x55 x51.toInt64) = 0
                    · rw [if_pos hc] at hf
                      refine r_if_eq_t (tgt := 493) O dL_law_488 (by decide) hc ?_
                      refine r_goto (tgt := 1874) O dL_law_493 (by decide) ?_
                      refine r_iinc O 6 [(4, .int (l4 + 5)), (6, .int x51), (5, .int x49), (0, .retAddr 0), (1, .ref l1), (2, .ref l2), (3, .ref l3)] dL_law_1874 rfl rfl (by decide) rfl ?_
                      refine r_goto (tgt := 23) O dL_law_1877 (by decide) ?_
                      refine AW.widen (k' := kc + 15) (n' := nc + 836) (by omega) (by omega) (AW.sub [3, 4, 5, 6, 0] rfl ?_)
                      exact ih _ _ (by omega) (by omega) _ _ hf
                    · rw [if_neg hc] at hf
                      refine r_if_eq_f (tgt := 493) O dL_law_488 (by decide) hc ?_
                      refine r_iconst O (v := 0) dL_law_491 (by decide) ?_
                      cases hf
                  · rw [if_neg hc] at hf
                    refine r_if_ne_t (tgt := 493) O dL_law_478 (by decide) hc ?_
                    refine r_goto (tgt := 1874) O dL_law_493 (by decide) ?_
                    refine r_iinc O 6 [(4, .int (l4 + 5)), (6, .int x51), (5, .int x49), (0, .retAddr 0), (1, .ref l1), (2, .ref l2), (3, .ref l3)] dL_law_1874 rfl rfl (by decide) rfl ?_
                    refine r_goto (tgt := 23) O dL_law_1877 (by decide) ?_
                    refine AW.widen (k' := kc + 15) (n' := nc + 836) (by omega) (by omega) (AW.sub [3, 4, 5, 6, 0] rfl ?_)
                    exact ih _ _ (by omega) (by omega) _ _ hf
                · rw [if_neg hc] at hf
                  refine r_icmp_eq_f (tgt := 476) O dL_law_471 (by decide) hc ?_
                  refine r_iconst O (v := 0) dL_law_474 (by decide) ?_
                  cases hf
              · rw [if_neg hc] at hf
                have hn452 := hc
                by_cases hc : x2 = 5
                · rw [if_pos hc] at hf
                  refine r_table_in (off := 457) (tgt := 496) O dL_law_39 (by (rw [hc]; decide)) (by (rw [hc]; decide)) (by (rw [hc]; rfl)) (by decide) ?_
                  refine r_aload_n O 1 dL_law_496 rfl (Or.inl rfl) ?_
                  refine r_aload_n O 0 dL_law_497 rfl (Or.inr ⟨_, rfl⟩) ?_
                  refine r_iload O 4 dL_law_498 rfl ?_
                  refine r_iconst O (v := 1) dL_law_500 (by decide) ?_
                  refine r_iadd O dL_law_501 ?_
                  obtain ⟨x56, ex56, hf⟩ := bnd hf
                  refine r_scI O hX ex56 dL_law_502 ?_
                  refine r_aload_n O 0 dL_law_503 rfl (Or.inr ⟨_, rfl⟩) ?_
                  refine r_iload O 4 dL_law_504 rfl ?_
                  refine r_iconst O (v := 2) dL_law_506 (by decide) ?_
                  refine r_iadd O dL_law_507 ?_
                  obtain ⟨x57, ex57, hf⟩ := bnd hf
                  refine r_scI O hX ex57 dL_law_508 ?_
                  refine r_aload_n O 0 dL_law_509 rfl (Or.inr ⟨_, rfl⟩) ?_
                  refine r_iload O 4 dL_law_510 rfl ?_
                  refine r_iconst O (v := 3) dL_law_512 (by decide) ?_
                  refine r_iadd O dL_law_513 ?_
                  obtain ⟨x58, ex58, hf⟩ := bnd hf
                  refine r_scI O hX ex58 dL_law_514 ?_
                  refine r_aload_n O 3 dL_law_515 rfl (Or.inl rfl) ?_
                  obtain ⟨⟨x59, h60⟩, ex59, hf⟩ := bnd hf
                  dsimp only at hf
                  refine r_callSW (av := [.ref l1, .int x56, .int x57, .int x58, .ref l3]) (st := []) O (c_L_place ex59) mf_L_place ml_L_124 ms_L_place (by decide) (Nat.le_of_ble_eq_true rfl) ⟨by show (kc + 15) ≤ 601024; omega, by show (nc + 836) ≤ 7293034; omega⟩ dL_law_516 ?_
                  refine r_istore O [(5, .int x59), (0, .retAddr 0), (1, .ref l1), (2, .ref l2), (3, .ref l3), (4, .int l4)] dL_law_519 (by decide) rfl ?_
                  refine r_aload_n O 3 dL_law_521 rfl (Or.inl rfl) ?_
                  refine r_aload_n O 1 dL_law_522 rfl (Or.inr ⟨_, rfl⟩) ?_
                  refine r_iload O 5 dL_law_523 rfl ?_
                  refine r_iconst O (v := 1) dL_law_525 (by decide) ?_
                  refine r_iadd O dL_law_526 ?_
                  obtain ⟨x61, ex61, hf⟩ := bnd hf
                  refine r_scI O hX ex61 dL_law_527 ?_
                  refine r_aload_n O 1 dL_law_528 rfl (Or.inr ⟨_, rfl⟩) ?_
                  refine r_iload O 5 dL_law_529 rfl ?_
                  refine r_iconst O (v := 2) dL_law_531 (by decide) ?_
                  refine r_iadd O dL_law_532 ?_
                  obtain ⟨x62, ex62, hf⟩ := bnd hf
                  refine r_scI O hX ex62 dL_law_533 ?_
                  refine r_aload_n O 1 dL_law_534 rfl (Or.inr ⟨_, rfl⟩) ?_
                  refine r_iload O 5 dL_law_535 rfl ?_
                  refine r_iconst O (v := 3) dL_law_537 (by decide) ?_
                  refine r_iadd O dL_law_538 ?_
                  obtain ⟨x63, ex63, hf⟩ := bnd hf
                  refine r_scI O hX ex63 dL_law_539 ?_
                  obtain ⟨⟨x64, h65⟩, ex64, hf⟩ := bnd hf
                  dsimp only at hf
                  refine r_callV (av := [.int x61, .int x62, .int x63]) (st := []) O (c_X9_place ex64) mf_X9_place cf9 (kd_X9_place ex64) ml_L_127 mi_X9_place mv_X9_place (by decide) (Nat.le_of_ble_eq_true rfl) ⟨by show (kc + 15) ≤ 601024; omega, by show (nc + 836) ≤ 7293034; omega⟩ dL_law_540 ?_
                  refine r_istore O [(6, .int x64), (5, .int x59), (0, .retAddr 0), (1, .ref l1), (2, .ref l2), (3, .ref l3), (4, .int l4)] dL_law_543 (by decide) rfl ?_
                  refine r_aload_n O 4 dL_law_545 rfl (Or.inl rfl) ?_
                  obtain ⟨x66, ex66, hf⟩ := bnd hf
                  refine r_callV (av := []) (st := []) O (c_X9_thrown ex66) mf_X9_thrown cf9 (kd_X9_thrown ex66) ml_L_106 mi_X9_thrown mv_X9_thrown (by decide) (Nat.le_of_ble_eq_true rfl) ⟨by show (kc + 15) ≤ 601024; omega, by show (nc + 836) ≤ 7293034; omega⟩ dL_law_546 ?_
                  refine r_iload O 1 dL_law_549 rfl ?_
                  by_cases hc : x66 = x59
                  · rw [if_pos hc] at hf
                    refine r_icmp_eq_t (tgt := 556) O dL_law_551 (by decide) hc ?_
                    refine r_iload O 1 dL_law_556 rfl ?_
                    by_cases hc : x59 = 0
                    · rw [if_pos hc] at hf
                      refine r_if_ne_f (tgt := 573) O dL_law_558 (by decide) hc ?_
                      refine r_aload_n O 5 dL_law_561 rfl (Or.inl rfl) ?_
                      refine r_iconst O (v := 0) dL_law_562 (by decide) ?_
                      obtain ⟨x68, ex68, hf⟩ := bnd hf
                      refine r_ldJ O ex68 dL_law_563 ?_
                      refine r_iload O 0 dL_law_564 rfl ?_
                      refine r_i2l O dL_law_566 ?_
                      refine r_lcmp O dL_law_567 ?_
                      by_cases hc : (lg_cmp x68 x64.toInt64) = 0
                      · rw [if_pos hc] at hf
                        refine r_if_eq_t (tgt := 573) O dL_law_568 (by decide) hc ?_
                        refine r_goto (tgt := 1874) O dL_law_573 (by decide) ?_
                        refine r_iinc O 6 [(4, .int (l4 + 5)), (6, .int x64), (5, .int x59), (0, .retAddr 0), (1, .ref l1), (2, .ref l2), (3, .ref l3)] dL_law_1874 rfl rfl (by decide) rfl ?_
                        refine r_goto (tgt := 23) O dL_law_1877 (by decide) ?_
                        refine AW.widen (k' := kc + 15) (n' := nc + 836) (by omega) (by omega) (AW.sub [3, 4, 5, 6, 0] rfl ?_)
                        exact ih _ _ (by omega) (by omega) _ _ hf
                      · rw [if_neg hc] at hf
                        refine r_if_eq_f (tgt := 573) O dL_law_568 (by decide) hc ?_
                        refine r_iconst O (v := 0) dL_law_571 (by decide) ?_
                        cases hf
                    · rw [if_neg hc] at hf
                      refine r_if_ne_t (tgt := 573) O dL_law_558 (by decide) hc ?_
                      refine r_goto (tgt := 1874) O dL_law_573 (by decide) ?_
                      refine r_iinc O 6 [(4, .int (l4 + 5)), (6, .int x64), (5, .int x59), (0, .retAddr 0), (1, .ref l1), (2, .ref l2), (3, .ref l3)] dL_law_1874 rfl rfl (by decide) rfl ?_
                      refine r_goto (tgt := 23) O dL_law_1877 (by decide) ?_
                      refine AW.widen (k' := kc + 15) (n' := nc + 836) (by omega) (by omega) (AW.sub [3, 4, 5, 6, 0] rfl ?_)
                      exact ih _ _ (by omega) (by omega) _ _ hf
                  · rw [if_neg hc] at hf
                    refine r_icmp_eq_f (tgt := 556) O dL_law_551 (by decide) hc ?_
                    refine r_iconst O (v := 0) dL_law_554 (by decide) ?_
                    cases hf
                · rw [if_neg hc] at hf
                  have hn496 := hc
                  by_cases hc : x2 = 6
                  · rw [if_pos hc] at hf
                    refine r_table_in (off := 537) (tgt := 576) O dL_law_39 (by (rw [hc]; decide)) (by (rw [hc]; decide)) (by (rw [hc]; rfl)) (by decide) ?_
                    refine r_aload_n O 1 dL_law_576 rfl (Or.inl rfl) ?_
                    refine r_aload_n O 0 dL_law_577 rfl (Or.inr ⟨_, rfl⟩) ?_
                    refine r_iload O 4 dL_law_578 rfl ?_
                    refine r_iconst O (v := 1) dL_law_580 (by decide) ?_
                    refine r_iadd O dL_law_581 ?_
                    obtain ⟨x69, ex69, hf⟩ := bnd hf
                    refine r_scI O hX ex69 dL_law_582 ?_
                    refine r_aload_n O 3 dL_law_583 rfl (Or.inl rfl) ?_
                    obtain ⟨⟨x70, h71⟩, ex70, hf⟩ := bnd hf
                    dsimp only at hf
                    refine r_callSW (av := [.ref l1, .int x69, .ref l3]) (st := []) O (c_L_take ex70) mf_L_take ml_L_128 ms_L_take (by decide) (Nat.le_of_ble_eq_true rfl) ⟨by show (kc + 13) ≤ 601024; omega, by show (nc + 824) ≤ 7293034; omega⟩ dL_law_584 ?_
                    refine r_istore O [(5, .int x70), (0, .retAddr 0), (1, .ref l1), (2, .ref l2), (3, .ref l3), (4, .int l4)] dL_law_587 (by decide) rfl ?_
                    refine r_aload_n O 3 dL_law_589 rfl (Or.inl rfl) ?_
                    refine r_aload_n O 1 dL_law_590 rfl (Or.inr ⟨_, rfl⟩) ?_
                    refine r_iload O 5 dL_law_591 rfl ?_
                    refine r_iconst O (v := 1) dL_law_593 (by decide) ?_
                    refine r_iadd O dL_law_594 ?_
                    obtain ⟨x72, ex72, hf⟩ := bnd hf
                    refine r_scI O hX ex72 dL_law_595 ?_
                    obtain ⟨⟨x73, h74⟩, ex73, hf⟩ := bnd hf
                    dsimp only at hf
                    refine r_callV (av := [.int x72]) (st := []) O (c_X9_take ex73) mf_X9_take cf9 (kd_X9_take ex73) ml_L_130 mi_X9_take mv_X9_take (by decide) (Nat.le_of_ble_eq_true rfl) ⟨by show (kc + 13) ≤ 601024; omega, by show (nc + 824) ≤ 7293034; omega⟩ dL_law_596 ?_
                    refine r_istore O [(6, .int x73), (5, .int x70), (0, .retAddr 0), (1, .ref l1), (2, .ref l2), (3, .ref l3), (4, .int l4)] dL_law_599 (by decide) rfl ?_
                    refine r_aload_n O 4 dL_law_601 rfl (Or.inl rfl) ?_
                    obtain ⟨x75, ex75, hf⟩ := bnd hf
                    refine r_callV (av := []) (st := []) O (c_X9_thrown ex75) mf_X9_thrown cf9 (kd_X9_thrown ex75) ml_L_106 mi_X9_thrown mv_X9_thrown (by decide) (Nat.le_of_ble_eq_true rfl) ⟨by show (kc + 13) ≤ 601024; omega, by show (nc + 824) ≤ 7293034; omega⟩ dL_law_602 ?_
                    refine r_iload O 1 dL_law_605 rfl ?_
                    by_cases hc : x75 = x70
                    · rw [if_pos hc] at hf
                      refine r_icmp_eq_t (tgt := 612) O dL_law_607 (by decide) hc ?_
                      refine r_iload O 1 dL_law_612 rfl ?_
                      by_cases hc : x70 = 0
                      · rw [if_pos hc] at hf
                        refine r_if_ne_f (tgt := 629) O dL_law_614 (by decide) hc ?_
                        refine r_aload_n O 5 dL_law_617 rfl (Or.inl rfl) ?_
                        refine r_iconst O (v := 0) dL_law_618 (by decide) ?_
                        obtain ⟨x77, ex77, hf⟩ := bnd hf
                        refine r_ldJ O ex77 dL_law_619 ?_
                        refine r_iload O 0 dL_law_620 rfl ?_
                        refine r_i2l O dL_law_622 ?_
                        refine r_lcmp O dL_law_623 ?_
                        by_cases hc : (lg_cmp x77 x73.toInt64) = 0
                        · rw [if_pos hc] at hf
                          refine r_if_eq_t (tgt := 629) O dL_law_624 (by decide) hc ?_
                          refine r_goto (tgt := 1874) O dL_law_629 (by decide) ?_
                          refine r_iinc O 6 [(4, .int (l4 + 5)), (6, .int x73), (5, .int x70), (0, .retAddr 0), (1, .ref l1), (2, .ref l2), (3, .ref l3)] dL_law_1874 rfl rfl (by decide) rfl ?_
                          refine r_goto (tgt := 23) O dL_law_1877 (by decide) ?_
                          refine AW.widen (k' := kc + 15) (n' := nc + 836) (by omega) (by omega) (AW.sub [3, 4, 5, 6, 0] rfl ?_)
                          exact ih _ _ (by omega) (by omega) _ _ hf
                        · rw [if_neg hc] at hf
                          refine r_if_eq_f (tgt := 629) O dL_law_624 (by decide) hc ?_
                          refine r_iconst O (v := 0) dL_law_627 (by decide) ?_
                          cases hf
                      · rw [if_neg hc] at hf
                        refine r_if_ne_t (tgt := 629) O dL_law_614 (by decide) hc ?_
                        refine r_goto (tgt := 1874) O dL_law_629 (by decide) ?_
                        refine r_iinc O 6 [(4, .int (l4 + 5)), (6, .int x73), (5, .int x70), (0, .retAddr 0), (1, .ref l1), (2, .ref l2), (3, .ref l3)] dL_law_1874 rfl rfl (by decide) rfl ?_
                        refine r_goto (tgt := 23) O dL_law_1877 (by decide) ?_
                        refine AW.widen (k' := kc + 15) (n' := nc + 836) (by omega) (by omega) (AW.sub [3, 4, 5, 6, 0] rfl ?_)
                        exact ih _ _ (by omega) (by omega) _ _ hf
                    · rw [if_neg hc] at hf
                      refine r_icmp_eq_f (tgt := 612) O dL_law_607 (by decide) hc ?_
                      refine r_iconst O (v := 0) dL_law_610 (by decide) ?_
                      cases hf
                  · rw [if_neg hc] at hf
                    have hn576 := hc
                    by_cases hc : x2 = 7
                    · rw [if_pos hc] at hf
                      refine r_table_in (off := 593) (tgt := 632) O dL_law_39 (by (rw [hc]; decide)) (by (rw [hc]; decide)) (by (rw [hc]; rfl)) (by decide) ?_
                      refine r_aload_n O 1 dL_law_632 rfl (Or.inl rfl) ?_
                      refine r_aload_n O 0 dL_law_633 rfl (Or.inr ⟨_, rfl⟩) ?_
                      refine r_iload O 4 dL_law_634 rfl ?_
                      refine r_iconst O (v := 1) dL_law_636 (by decide) ?_
                      refine r_iadd O dL_law_637 ?_
                      obtain ⟨x78, ex78, hf⟩ := bnd hf
                      refine r_scI O hX ex78 dL_law_638 ?_
                      refine r_aload_n O 0 dL_law_639 rfl (Or.inr ⟨_, rfl⟩) ?_
                      refine r_iload O 4 dL_law_640 rfl ?_
                      refine r_iconst O (v := 2) dL_law_642 (by decide) ?_
                      refine r_iadd O dL_law_643 ?_
                      obtain ⟨x79, ex79, hf⟩ := bnd hf
                      refine r_scI O hX ex79 dL_law_644 ?_
                      refine r_aload_n O 0 dL_law_645 rfl (Or.inr ⟨_, rfl⟩) ?_
                      refine r_iload O 4 dL_law_646 rfl ?_
                      refine r_iconst O (v := 3) dL_law_648 (by decide) ?_
                      refine r_iadd O dL_law_649 ?_
                      obtain ⟨x80, ex80, hf⟩ := bnd hf
                      refine r_scI O hX ex80 dL_law_650 ?_
                      refine r_aload_n O 3 dL_law_651 rfl (Or.inl rfl) ?_
                      obtain ⟨⟨x81, h82⟩, ex81, hf⟩ := bnd hf
                      dsimp only at hf
                      refine r_callSW (av := [.ref l1, .int x78, .int x79, .int x80, .ref l3]) (st := []) O (c_L_move ex81) mf_L_move ml_L_131 ms_L_move (by decide) (Nat.le_of_ble_eq_true rfl) ⟨by show (kc + 15) ≤ 601024; omega, by show (nc + 836) ≤ 7293034; omega⟩ dL_law_652 ?_
                      refine r_istore O [(5, .int x81), (0, .retAddr 0), (1, .ref l1), (2, .ref l2), (3, .ref l3), (4, .int l4)] dL_law_655 (by decide) rfl ?_
                      refine r_aload_n O 3 dL_law_657 rfl (Or.inl rfl) ?_
                      refine r_aload_n O 1 dL_law_658 rfl (Or.inr ⟨_, rfl⟩) ?_
                      refine r_iload O 5 dL_law_659 rfl ?_
                      refine r_iconst O (v := 1) dL_law_661 (by decide) ?_
                      refine r_iadd O dL_law_662 ?_
                      obtain ⟨x83, ex83, hf⟩ := bnd hf
                      refine r_scI O hX ex83 dL_law_663 ?_
                      refine r_aload_n O 1 dL_law_664 rfl (Or.inr ⟨_, rfl⟩) ?_
                      refine r_iload O 5 dL_law_665 rfl ?_
                      refine r_iconst O (v := 2) dL_law_667 (by decide) ?_
                      refine r_iadd O dL_law_668 ?_
                      obtain ⟨x84, ex84, hf⟩ := bnd hf
                      refine r_scI O hX ex84 dL_law_669 ?_
                      refine r_aload_n O 1 dL_law_670 rfl (Or.inr ⟨_, rfl⟩) ?_
                      refine r_iload O 5 dL_law_671 rfl ?_
                      refine r_iconst O (v := 3) dL_law_673 (by decide) ?_
                      refine r_iadd O dL_law_674 ?_
                      obtain ⟨x85, ex85, hf⟩ := bnd hf
                      refine r_scI O hX ex85 dL_law_675 ?_
                      obtain ⟨⟨x86, h87⟩, ex86, hf⟩ := bnd hf
                      dsimp only at hf
                      refine r_callV (av := [.int x83, .int x84, .int x85]) (st := []) O (c_X9_move ex86) mf_X9_move cf9 (kd_X9_move ex86) ml_L_133 mi_X9_move mv_X9_move (by decide) (Nat.le_of_ble_eq_true rfl) ⟨by show (kc + 15) ≤ 601024; omega, by show (nc + 836) ≤ 7293034; omega⟩ dL_law_676 ?_
                      refine r_istore O [(6, .int x86), (5, .int x81), (0, .retAddr 0), (1, .ref l1), (2, .ref l2), (3, .ref l3), (4, .int l4)] dL_law_679 (by decide) rfl ?_
                      refine r_aload_n O 4 dL_law_681 rfl (Or.inl rfl) ?_
                      obtain ⟨x88, ex88, hf⟩ := bnd hf
                      refine r_callV (av := []) (st := []) O (c_X9_thrown ex88) mf_X9_thrown cf9 (kd_X9_thrown ex88) ml_L_106 mi_X9_thrown mv_X9_thrown (by decide) (Nat.le_of_ble_eq_true rfl) ⟨by show (kc + 15) ≤ 601024; omega, by show (nc + 836) ≤ 7293034; omega⟩ dL_law_682 ?_
                      refine r_iload O 1 dL_law_685 rfl ?_
                      by_cases hc : x88 = x81
                      · rw [if_pos hc] at hf
                        refine r_icmp_eq_t (tgt := 692) O dL_law_687 (by decide) hc ?_
                        refine r_iload O 1 dL_law_692 rfl ?_
                        by_cases hc : x81 = 0
                        · rw [if_pos hc] at hf
                          refine r_if_ne_f (tgt := 709) O dL_law_694 (by decide) hc ?_
                          refine r_aload_n O 5 dL_law_697 rfl (Or.inl rfl) ?_
                          refine r_iconst O (v := 0) dL_law_698 (by decide) ?_
                          obtain ⟨x90, ex90, hf⟩ := bnd hf
                          refine r_ldJ O ex90 dL_law_699 ?_
                          refine r_iload O 0 dL_law_700 rfl ?_
                          refine r_i2l O dL_law_702 ?_
                          refine r_lcmp O dL_law_703 ?_
                          by_cases hc : (lg_cmp x90 x86.toInt64) = 0
                          · rw [if_pos hc] at hf
                            refine r_if_eq_t (tgt := 709) O dL_law_704 (by decide) hc ?_
                            refine r_goto (tgt := 1874) O dL_law_709 (by decide) ?_
                            refine r_iinc O 6 [(4, .int (l4 + 5)), (6, .int x86), (5, .int x81), (0, .retAddr 0), (1, .ref l1), (2, .ref l2), (3, .ref l3)] dL_law_1874 rfl rfl (by decide) rfl ?_
                            refine r_goto (tgt := 23) O dL_law_1877 (by decide) ?_
                            refine AW.widen (k' := kc + 15) (n' := nc + 836) (by omega) (by omega) (AW.sub [3, 4, 5, 6, 0] rfl ?_)
                            exact ih _ _ (by omega) (by omega) _ _ hf
                          · rw [if_neg hc] at hf
                            refine r_if_eq_f (tgt := 709) O dL_law_704 (by decide) hc ?_
                            refine r_iconst O (v := 0) dL_law_707 (by decide) ?_
                            cases hf
                        · rw [if_neg hc] at hf
                          refine r_if_ne_t (tgt := 709) O dL_law_694 (by decide) hc ?_
                          refine r_goto (tgt := 1874) O dL_law_709 (by decide) ?_
                          refine r_iinc O 6 [(4, .int (l4 + 5)), (6, .int x86), (5, .int x81), (0, .retAddr 0), (1, .ref l1), (2, .ref l2), (3, .ref l3)] dL_law_1874 rfl rfl (by decide) rfl ?_
                          refine r_goto (tgt := 23) O dL_law_1877 (by decide) ?_
                          refine AW.widen (k' := kc + 15) (n' := nc + 836) (by omega) (by omega) (AW.sub [3, 4, 5, 6, 0] rfl ?_)
                          exact ih _ _ (by omega) (by omega) _ _ hf
                      · rw [if_neg hc] at hf
                        refine r_icmp_eq_f (tgt := 692) O dL_law_687 (by decide) hc ?_
                        refine r_iconst O (v := 0) dL_law_690 (by decide) ?_
                        cases hf
                    · rw [if_neg hc] at hf
                      have hn632 := hc
                      by_cases hc : x2 = 8
                      · rw [if_pos hc] at hf
                        refine r_table_in (off := 673) (tgt := 712) O dL_law_39 (by (rw [hc]; decide)) (by (rw [hc]; decide)) (by (rw [hc]; rfl)) (by decide) ?_
                        refine r_aload_n O 1 dL_law_712 rfl (Or.inl rfl) ?_
                        refine r_aload_n O 0 dL_law_713 rfl (Or.inr ⟨_, rfl⟩) ?_
                        refine r_iload O 4 dL_law_714 rfl ?_
                        refine r_iconst O (v := 1) dL_law_716 (by decide) ?_
                        refine r_iadd O dL_law_717 ?_
                        obtain ⟨x91, ex91, hf⟩ := bnd hf
                        refine r_scI O hX ex91 dL_law_718 ?_
                        refine r_aload_n O 0 dL_law_719 rfl (Or.inr ⟨_, rfl⟩) ?_
                        refine r_iload O 4 dL_law_720 rfl ?_
                        refine r_iconst O (v := 2) dL_law_722 (by decide) ?_
                        refine r_iadd O dL_law_723 ?_
                        obtain ⟨x92, ex92, hf⟩ := bnd hf
                        refine r_scI O hX ex92 dL_law_724 ?_
                        refine r_aload_n O 3 dL_law_725 rfl (Or.inl rfl) ?_
                        obtain ⟨⟨x93, h94⟩, ex93, hf⟩ := bnd hf
                        dsimp only at hf
                        refine r_callSW (av := [.ref l1, .int x91, .int x92, .ref l3]) (st := []) O (c_L_swap ex93) mf_L_swap ml_L_134 ms_L_swap (by decide) (Nat.le_of_ble_eq_true rfl) ⟨by show (kc + 15) ≤ 601024; omega, by show (nc + 836) ≤ 7293034; omega⟩ dL_law_726 ?_
                        refine r_istore O [(5, .int x93), (0, .retAddr 0), (1, .ref l1), (2, .ref l2), (3, .ref l3), (4, .int l4)] dL_law_729 (by decide) rfl ?_
                        refine r_aload_n O 3 dL_law_731 rfl (Or.inl rfl) ?_
                        refine r_aload_n O 1 dL_law_732 rfl (Or.inr ⟨_, rfl⟩) ?_
                        refine r_iload O 5 dL_law_733 rfl ?_
                        refine r_iconst O (v := 1) dL_law_735 (by decide) ?_
                        refine r_iadd O dL_law_736 ?_
                        obtain ⟨x95, ex95, hf⟩ := bnd hf
                        refine r_scI O hX ex95 dL_law_737 ?_
                        refine r_aload_n O 1 dL_law_738 rfl (Or.inr ⟨_, rfl⟩) ?_
                        refine r_iload O 5 dL_law_739 rfl ?_
                        refine r_iconst O (v := 2) dL_law_741 (by decide) ?_
                        refine r_iadd O dL_law_742 ?_
                        obtain ⟨x96, ex96, hf⟩ := bnd hf
                        refine r_scI O hX ex96 dL_law_743 ?_
                        obtain ⟨⟨x97, h98⟩, ex97, hf⟩ := bnd hf
                        dsimp only at hf
                        refine r_callV (av := [.int x95, .int x96]) (st := []) O (c_X9_swap ex97) mf_X9_swap cf9 (kd_X9_swap ex97) ml_L_136 mi_X9_swap mv_X9_swap (by decide) (Nat.le_of_ble_eq_true rfl) ⟨by show (kc + 15) ≤ 601024; omega, by show (nc + 836) ≤ 7293034; omega⟩ dL_law_744 ?_
                        refine r_istore O [(6, .int x97), (5, .int x93), (0, .retAddr 0), (1, .ref l1), (2, .ref l2), (3, .ref l3), (4, .int l4)] dL_law_747 (by decide) rfl ?_
                        refine r_aload_n O 4 dL_law_749 rfl (Or.inl rfl) ?_
                        obtain ⟨x99, ex99, hf⟩ := bnd hf
                        refine r_callV (av := []) (st := []) O (c_X9_thrown ex99) mf_X9_thrown cf9 (kd_X9_thrown ex99) ml_L_106 mi_X9_thrown mv_X9_thrown (by decide) (Nat.le_of_ble_eq_true rfl) ⟨by show (kc + 15) ≤ 601024; omega, by show (nc + 836) ≤ 7293034; omega⟩ dL_law_750 ?_
                        refine r_iload O 1 dL_law_753 rfl ?_
                        by_cases hc : x99 = x93
                        · rw [if_pos hc] at hf
                          refine r_icmp_eq_t (tgt := 760) O dL_law_755 (by decide) hc ?_
                          refine r_iload O 1 dL_law_760 rfl ?_
                          by_cases hc : x93 = 0
                          · rw [if_pos hc] at hf
                            refine r_if_ne_f (tgt := 777) O dL_law_762 (by decide) hc ?_
                            refine r_aload_n O 5 dL_law_765 rfl (Or.inl rfl) ?_
                            refine r_iconst O (v := 0) dL_law_766 (by decide) ?_
                            obtain ⟨x101, ex101, hf⟩ := bnd hf
                            refine r_ldJ O ex101 dL_law_767 ?_
                            refine r_iload O 0 dL_law_768 rfl ?_
                            refine r_i2l O dL_law_770 ?_
                            refine r_lcmp O dL_law_771 ?_
                            by_cases hc : (lg_cmp x101 x97.toInt64) = 0
                            · rw [if_pos hc] at hf
                              refine r_if_eq_t (tgt := 777) O dL_law_772 (by decide) hc ?_
                              refine r_goto (tgt := 1874) O dL_law_777 (by decide) ?_
                              refine r_iinc O 6 [(4, .int (l4 + 5)), (6, .int x97), (5, .int x93), (0, .retAddr 0), (1, .ref l1), (2, .ref l2), (3, .ref l3)] dL_law_1874 rfl rfl (by decide) rfl ?_
                              refine r_goto (tgt := 23) O dL_law_1877 (by decide) ?_
                              refine AW.widen (k' := kc + 15) (n' := nc + 836) (by omega) (by omega) (AW.sub [3, 4, 5, 6, 0] rfl ?_)
                              exact ih _ _ (by omega) (by omega) _ _ hf
                            · rw [if_neg hc] at hf
                              refine r_if_eq_f (tgt := 777) O dL_law_772 (by decide) hc ?_
                              refine r_iconst O (v := 0) dL_law_775 (by decide) ?_
                              cases hf
                          · rw [if_neg hc] at hf
                            refine r_if_ne_t (tgt := 777) O dL_law_762 (by decide) hc ?_
                            refine r_goto (tgt := 1874) O dL_law_777 (by decide) ?_
                            refine r_iinc O 6 [(4, .int (l4 + 5)), (6, .int x97), (5, .int x93), (0, .retAddr 0), (1, .ref l1), (2, .ref l2), (3, .ref l3)] dL_law_1874 rfl rfl (by decide) rfl ?_
                            refine r_goto (tgt := 23) O dL_law_1877 (by decide) ?_
                            refine AW.widen (k' := kc + 15) (n' := nc + 836) (by omega) (by omega) (AW.sub [3, 4, 5, 6, 0] rfl ?_)
                            exact ih _ _ (by omega) (by omega) _ _ hf
                        · rw [if_neg hc] at hf
                          refine r_icmp_eq_f (tgt := 760) O dL_law_755 (by decide) hc ?_
                          refine r_iconst O (v := 0) dL_law_758 (by decide) ?_
                          cases hf
                      · rw [if_neg hc] at hf
                        have hn712 := hc
                        by_cases hc : x2 = 9
                        · rw [if_pos hc] at hf
                          refine r_table_in (off := 741) (tgt := 780) O dL_law_39 (by (rw [hc]; decide)) (by (rw [hc]; decide)) (by (rw [hc]; rfl)) (by decide) ?_
                          refine r_aload_n O 1 dL_law_780 rfl (Or.inl rfl) ?_
                          refine r_aload_n O 0 dL_law_781 rfl (Or.inr ⟨_, rfl⟩) ?_
                          refine r_iload O 4 dL_law_782 rfl ?_
                          refine r_iconst O (v := 1) dL_law_784 (by decide) ?_
                          refine r_iadd O dL_law_785 ?_
                          obtain ⟨x102, ex102, hf⟩ := bnd hf
                          refine r_scI O hX ex102 dL_law_786 ?_
                          refine r_aload_n O 0 dL_law_787 rfl (Or.inr ⟨_, rfl⟩) ?_
                          refine r_iload O 4 dL_law_788 rfl ?_
                          refine r_iconst O (v := 2) dL_law_790 (by decide) ?_
                          refine r_iadd O dL_law_791 ?_
                          obtain ⟨x103, ex103, hf⟩ := bnd hf
                          refine r_scI O hX ex103 dL_law_792 ?_
                          refine r_aload_n O 0 dL_law_793 rfl (Or.inr ⟨_, rfl⟩) ?_
                          refine r_iload O 4 dL_law_794 rfl ?_
                          refine r_iconst O (v := 3) dL_law_796 (by decide) ?_
                          refine r_iadd O dL_law_797 ?_
                          obtain ⟨x104, ex104, hf⟩ := bnd hf
                          refine r_scI O hX ex104 dL_law_798 ?_
                          refine r_aload_n O 3 dL_law_799 rfl (Or.inl rfl) ?_
                          obtain ⟨⟨x105, h106⟩, ex105, hf⟩ := bnd hf
                          dsimp only at hf
                          refine r_callSW (av := [.ref l1, .int x102, .int x103, .int x104, .ref l3]) (st := []) O (c_L_turn ex105) mf_L_turn ml_L_137 ms_L_turn (by decide) (Nat.le_of_ble_eq_true rfl) ⟨by show (kc + 14) ≤ 601024; omega, by show (nc + 830) ≤ 7293034; omega⟩ dL_law_800 ?_
                          refine r_istore O [(5, .int x105), (0, .retAddr 0), (1, .ref l1), (2, .ref l2), (3, .ref l3), (4, .int l4)] dL_law_803 (by decide) rfl ?_
                          refine r_aload_n O 3 dL_law_805 rfl (Or.inl rfl) ?_
                          refine r_aload_n O 1 dL_law_806 rfl (Or.inr ⟨_, rfl⟩) ?_
                          refine r_iload O 5 dL_law_807 rfl ?_
                          refine r_iconst O (v := 1) dL_law_809 (by decide) ?_
                          refine r_iadd O dL_law_810 ?_
                          obtain ⟨x107, ex107, hf⟩ := bnd hf
                          refine r_scI O hX ex107 dL_law_811 ?_
                          refine r_aload_n O 1 dL_law_812 rfl (Or.inr ⟨_, rfl⟩) ?_
                          refine r_iload O 5 dL_law_813 rfl ?_
                          refine r_iconst O (v := 2) dL_law_815 (by decide) ?_
                          refine r_iadd O dL_law_816 ?_
                          obtain ⟨x108, ex108, hf⟩ := bnd hf
                          refine r_scI O hX ex108 dL_law_817 ?_
                          refine r_aload_n O 1 dL_law_818 rfl (Or.inr ⟨_, rfl⟩) ?_
                          refine r_iload O 5 dL_law_819 rfl ?_
                          refine r_iconst O (v := 3) dL_law_821 (by decide) ?_
                          refine r_iadd O dL_law_822 ?_
                          obtain ⟨x109, ex109, hf⟩ := bnd hf
                          refine r_scI O hX ex109 dL_law_823 ?_
                          obtain ⟨⟨x110, h111⟩, ex110, hf⟩ := bnd hf
                          dsimp only at hf
                          refine r_callV (av := [.int x107, .int x108, .int x109]) (st := []) O (c_X9_turn ex110) mf_X9_turn cf9 (kd_X9_turn ex110) ml_L_139 mi_X9_turn mv_X9_turn (by decide) (Nat.le_of_ble_eq_true rfl) ⟨by show (kc + 14) ≤ 601024; omega, by show (nc + 830) ≤ 7293034; omega⟩ dL_law_824 ?_
                          refine r_istore O [(6, .int x110), (5, .int x105), (0, .retAddr 0), (1, .ref l1), (2, .ref l2), (3, .ref l3), (4, .int l4)] dL_law_827 (by decide) rfl ?_
                          refine r_aload_n O 4 dL_law_829 rfl (Or.inl rfl) ?_
                          obtain ⟨x112, ex112, hf⟩ := bnd hf
                          refine r_callV (av := []) (st := []) O (c_X9_thrown ex112) mf_X9_thrown cf9 (kd_X9_thrown ex112) ml_L_106 mi_X9_thrown mv_X9_thrown (by decide) (Nat.le_of_ble_eq_true rfl) ⟨by show (kc + 14) ≤ 601024; omega, by show (nc + 830) ≤ 7293034; omega⟩ dL_law_830 ?_
                          refine r_iload O 1 dL_law_833 rfl ?_
                          by_cases hc : x112 = x105
                          · rw [if_pos hc] at hf
                            refine r_icmp_eq_t (tgt := 840) O dL_law_835 (by decide) hc ?_
                            refine r_iload O 1 dL_law_840 rfl ?_
                            by_cases hc : x105 = 0
                            · rw [if_pos hc] at hf
                              refine r_if_ne_f (tgt := 857) O dL_law_842 (by decide) hc ?_
                              refine r_aload_n O 5 dL_law_845 rfl (Or.inl rfl) ?_
                              refine r_iconst O (v := 0) dL_law_846 (by decide) ?_
                              obtain ⟨x114, ex114, hf⟩ := bnd hf
                              refine r_ldJ O ex114 dL_law_847 ?_
                              refine r_iload O 0 dL_law_848 rfl ?_
                              refine r_i2l O dL_law_850 ?_
                              refine r_lcmp O dL_law_851 ?_
                              by_cases hc : (lg_cmp x114 x110.toInt64) = 0
                              · rw [if_pos hc] at hf
                                refine r_if_eq_t (tgt := 857) O dL_law_852 (by decide) hc ?_
                                refine r_goto (tgt := 1874) O dL_law_857 (by decide) ?_
                                refine r_iinc O 6 [(4, .int (l4 + 5)), (6, .int x110), (5, .int x105), (0, .retAddr 0), (1, .ref l1), (2, .ref l2), (3, .ref l3)] dL_law_1874 rfl rfl (by decide) rfl ?_
                                refine r_goto (tgt := 23) O dL_law_1877 (by decide) ?_
                                refine AW.widen (k' := kc + 15) (n' := nc + 836) (by omega) (by omega) (AW.sub [3, 4, 5, 6, 0] rfl ?_)
                                exact ih _ _ (by omega) (by omega) _ _ hf
                              · rw [if_neg hc] at hf
                                refine r_if_eq_f (tgt := 857) O dL_law_852 (by decide) hc ?_
                                refine r_iconst O (v := 0) dL_law_855 (by decide) ?_
                                cases hf
                            · rw [if_neg hc] at hf
                              refine r_if_ne_t (tgt := 857) O dL_law_842 (by decide) hc ?_
                              refine r_goto (tgt := 1874) O dL_law_857 (by decide) ?_
                              refine r_iinc O 6 [(4, .int (l4 + 5)), (6, .int x110), (5, .int x105), (0, .retAddr 0), (1, .ref l1), (2, .ref l2), (3, .ref l3)] dL_law_1874 rfl rfl (by decide) rfl ?_
                              refine r_goto (tgt := 23) O dL_law_1877 (by decide) ?_
                              refine AW.widen (k' := kc + 15) (n' := nc + 836) (by omega) (by omega) (AW.sub [3, 4, 5, 6, 0] rfl ?_)
                              exact ih _ _ (by omega) (by omega) _ _ hf
                          · rw [if_neg hc] at hf
                            refine r_icmp_eq_f (tgt := 840) O dL_law_835 (by decide) hc ?_
                            refine r_iconst O (v := 0) dL_law_838 (by decide) ?_
                            cases hf
                        · rw [if_neg hc] at hf
                          have hn780 := hc
                          by_cases hc : x2 = 10
                          · rw [if_pos hc] at hf
                            refine r_table_in (off := 821) (tgt := 860) O dL_law_39 (by (rw [hc]; decide)) (by (rw [hc]; decide)) (by (rw [hc]; rfl)) (by decide) ?_
                            refine r_aload_n O 1 dL_law_860 rfl (Or.inl rfl) ?_
                            refine r_aload_n O 0 dL_law_861 rfl (Or.inr ⟨_, rfl⟩) ?_
                            refine r_iload O 4 dL_law_862 rfl ?_
                            refine r_iconst O (v := 1) dL_law_864 (by decide) ?_
                            refine r_iadd O dL_law_865 ?_
                            obtain ⟨x115, ex115, hf⟩ := bnd hf
                            refine r_scI O hX ex115 dL_law_866 ?_
                            refine r_aload_n O 0 dL_law_867 rfl (Or.inr ⟨_, rfl⟩) ?_
                            refine r_iload O 4 dL_law_868 rfl ?_
                            refine r_iconst O (v := 2) dL_law_870 (by decide) ?_
                            refine r_iadd O dL_law_871 ?_
                            obtain ⟨x116, ex116, hf⟩ := bnd hf
                            refine r_scI O hX ex116 dL_law_872 ?_
                            refine r_aload_n O 0 dL_law_873 rfl (Or.inr ⟨_, rfl⟩) ?_
                            refine r_iload O 4 dL_law_874 rfl ?_
                            refine r_iconst O (v := 3) dL_law_876 (by decide) ?_
                            refine r_iadd O dL_law_877 ?_
                            obtain ⟨x117, ex117, hf⟩ := bnd hf
                            refine r_scI O hX ex117 dL_law_878 ?_
                            refine r_aload_n O 0 dL_law_879 rfl (Or.inr ⟨_, rfl⟩) ?_
                            refine r_iload O 4 dL_law_880 rfl ?_
                            refine r_iconst O (v := 4) dL_law_882 (by decide) ?_
                            refine r_iadd O dL_law_883 ?_
                            obtain ⟨x118, ex118, hf⟩ := bnd hf
                            refine r_scI O hX ex118 dL_law_884 ?_
                            refine r_aload_n O 3 dL_law_885 rfl (Or.inl rfl) ?_
                            obtain ⟨⟨x119, h120⟩, ex119, hf⟩ := bnd hf
                            dsimp only at hf
                            refine r_callSW (av := [.ref l1, .int x115, .int x116, .int x117, .int x118, .ref l3]) (st := []) O (c_L_tails ex119) mf_L_tails ml_L_140 ms_L_tails (by decide) (Nat.le_of_ble_eq_true rfl) ⟨by show (kc + 15) ≤ 601024; omega, by show (nc + 836) ≤ 7293034; omega⟩ dL_law_886 ?_
                            refine r_istore O [(5, .int x119), (0, .retAddr 0), (1, .ref l1), (2, .ref l2), (3, .ref l3), (4, .int l4)] dL_law_889 (by decide) rfl ?_
                            refine r_aload_n O 3 dL_law_891 rfl (Or.inl rfl) ?_
                            refine r_aload_n O 1 dL_law_892 rfl (Or.inr ⟨_, rfl⟩) ?_
                            refine r_iload O 5 dL_law_893 rfl ?_
                            refine r_iconst O (v := 1) dL_law_895 (by decide) ?_
                            refine r_iadd O dL_law_896 ?_
                            obtain ⟨x121, ex121, hf⟩ := bnd hf
                            refine r_scI O hX ex121 dL_law_897 ?_
                            refine r_aload_n O 1 dL_law_898 rfl (Or.inr ⟨_, rfl⟩) ?_
                            refine r_iload O 5 dL_law_899 rfl ?_
                            refine r_iconst O (v := 2) dL_law_901 (by decide) ?_
                            refine r_iadd O dL_law_902 ?_
                            obtain ⟨x122, ex122, hf⟩ := bnd hf
                            refine r_scI O hX ex122 dL_law_903 ?_
                            refine r_aload_n O 1 dL_law_904 rfl (Or.inr ⟨_, rfl⟩) ?_
                            refine r_iload O 5 dL_law_905 rfl ?_
                            refine r_iconst O (v := 3) dL_law_907 (by decide) ?_
                            refine r_iadd O dL_law_908 ?_
                            obtain ⟨x123, ex123, hf⟩ := bnd hf
                            refine r_scI O hX ex123 dL_law_909 ?_
                            refine r_aload_n O 1 dL_law_910 rfl (Or.inr ⟨_, rfl⟩) ?_
                            refine r_iload O 5 dL_law_911 rfl ?_
                            refine r_iconst O (v := 4) dL_law_913 (by decide) ?_
                            refine r_iadd O dL_law_914 ?_
                            obtain ⟨x124, ex124, hf⟩ := bnd hf
                            refine r_scI O hX ex124 dL_law_915 ?_
                            obtain ⟨⟨x125, h126⟩, ex125, hf⟩ := bnd hf
                            dsimp only at hf
                            refine r_callV (av := [.int x121, .int x122, .int x123, .int x124]) (st := []) O (c_X9_tails ex125) mf_X9_tails cf9 (kd_X9_tails ex125) ml_L_142 mi_X9_tails mv_X9_tails (by decide) (Nat.le_of_ble_eq_true rfl) ⟨by show (kc + 15) ≤ 601024; omega, by show (nc + 836) ≤ 7293034; omega⟩ dL_law_916 ?_
                            refine r_istore O [(6, .int x125), (5, .int x119), (0, .retAddr 0), (1, .ref l1), (2, .ref l2), (3, .ref l3), (4, .int l4)] dL_law_919 (by decide) rfl ?_
                            refine r_aload_n O 4 dL_law_921 rfl (Or.inl rfl) ?_
                            obtain ⟨x127, ex127, hf⟩ := bnd hf
                            refine r_callV (av := []) (st := []) O (c_X9_thrown ex127) mf_X9_thrown cf9 (kd_X9_thrown ex127) ml_L_106 mi_X9_thrown mv_X9_thrown (by decide) (Nat.le_of_ble_eq_true rfl) ⟨by show (kc + 15) ≤ 601024; omega, by show (nc + 836) ≤ 7293034; omega⟩ dL_law_922 ?_
                            refine r_iload O 1 dL_law_925 rfl ?_
                            by_cases hc : x127 = x119
                            · rw [if_pos hc] at hf
                              refine r_icmp_eq_t (tgt := 932) O dL_law_927 (by decide) hc ?_
                              refine r_iload O 1 dL_law_932 rfl ?_
                              by_cases hc : x119 = 0
                              · rw [if_pos hc] at hf
                                refine r_if_ne_f (tgt := 949) O dL_law_934 (by decide) hc ?_
                                refine r_aload_n O 5 dL_law_937 rfl (Or.inl rfl) ?_
                                refine r_iconst O (v := 0) dL_law_938 (by decide) ?_
                                obtain ⟨x129, ex129, hf⟩ := bnd hf
                                refine r_ldJ O ex129 dL_law_939 ?_
                                refine r_iload O 0 dL_law_940 rfl ?_
                                refine r_i2l O dL_law_942 ?_
                                refine r_lcmp O dL_law_943 ?_
                                by_cases hc : (lg_cmp x129 x125.toInt64) = 0
                                · rw [if_pos hc] at hf
                                  refine r_if_eq_t (tgt := 949) O dL_law_944 (by decide) hc ?_
                                  refine r_goto (tgt := 1874) O dL_law_949 (by decide) ?_
                                  refine r_iinc O 6 [(4, .int (l4 + 5)), (6, .int x125), (5, .int x119), (0, .retAddr 0), (1, .ref l1), (2, .ref l2), (3, .ref l3)] dL_law_1874 rfl rfl (by decide) rfl ?_
                                  refine r_goto (tgt := 23) O dL_law_1877 (by decide) ?_
                                  refine AW.widen (k' := kc + 15) (n' := nc + 836) (by omega) (by omega) (AW.sub [3, 4, 5, 6, 0] rfl ?_)
                                  exact ih _ _ (by omega) (by omega) _ _ hf
                                · rw [if_neg hc] at hf
                                  refine r_if_eq_f (tgt := 949) O dL_law_944 (by decide) hc ?_
                                  refine r_iconst O (v := 0) dL_law_947 (by decide) ?_
                                  cases hf
                              · rw [if_neg hc] at hf
                                refine r_if_ne_t (tgt := 949) O dL_law_934 (by decide) hc ?_
                                refine r_goto (tgt := 1874) O dL_law_949 (by decide) ?_
                                refine r_iinc O 6 [(4, .int (l4 + 5)), (6, .int x125), (5, .int x119), (0, .retAddr 0), (1, .ref l1), (2, .ref l2), (3, .ref l3)] dL_law_1874 rfl rfl (by decide) rfl ?_
                                refine r_goto (tgt := 23) O dL_law_1877 (by decide) ?_
                                refine AW.widen (k' := kc + 15) (n' := nc + 836) (by omega) (by omega) (AW.sub [3, 4, 5, 6, 0] rfl ?_)
                                exact ih _ _ (by omega) (by omega) _ _ hf
                            · rw [if_neg hc] at hf
                              refine r_icmp_eq_f (tgt := 932) O dL_law_927 (by decide) hc ?_
                              refine r_iconst O (v := 0) dL_law_930 (by decide) ?_
                              cases hf
                          · rw [if_neg hc] at hf
                            have hn860 := hc
                            by_cases hc : x2 = 11
                            · rw [if_pos hc] at hf
                              refine r_table_in (off := 913) (tgt := 952) O dL_law_39 (by (rw [hc]; decide)) (by (rw [hc]; decide)) (by (rw [hc]; rfl)) (by decide) ?_
                              refine r_aload_n O 1 dL_law_952 rfl (Or.inl rfl) ?_
                              refine r_aload_n O 0 dL_law_953 rfl (Or.inr ⟨_, rfl⟩) ?_
                              refine r_iload O 4 dL_law_954 rfl ?_
                              refine r_iconst O (v := 1) dL_law_956 (by decide) ?_
                              refine r_iadd O dL_law_957 ?_
                              obtain ⟨x130, ex130, hf⟩ := bnd hf
                              refine r_scI O hX ex130 dL_law_958 ?_
                              refine r_aload_n O 0 dL_law_959 rfl (Or.inr ⟨_, rfl⟩) ?_
                              refine r_iload O 4 dL_law_960 rfl ?_
                              refine r_iconst O (v := 2) dL_law_962 (by decide) ?_
                              refine r_iadd O dL_law_963 ?_
                              obtain ⟨x131, ex131, hf⟩ := bnd hf
                              refine r_scI O hX ex131 dL_law_964 ?_
                              refine r_aload_n O 0 dL_law_965 rfl (Or.inr ⟨_, rfl⟩) ?_
                              refine r_iload O 4 dL_law_966 rfl ?_
                              refine r_iconst O (v := 3) dL_law_968 (by decide) ?_
                              refine r_iadd O dL_law_969 ?_
                              obtain ⟨x132, ex132, hf⟩ := bnd hf
                              refine r_scI O hX ex132 dL_law_970 ?_
                              refine r_aload_n O 3 dL_law_971 rfl (Or.inl rfl) ?_
                              obtain ⟨⟨x133, h134⟩, ex133, hf⟩ := bnd hf
                              dsimp only at hf
                              refine r_callSW (av := [.ref l1, .int x130, .int x131, .int x132, .ref l3]) (st := []) O (c_L_fact ex133) mf_L_fact ml_L_143 ms_L_fact (by decide) (Nat.le_of_ble_eq_true rfl) ⟨by show (kc + 14) ≤ 601024; omega, by show (nc + 830) ≤ 7293034; omega⟩ dL_law_972 ?_
                              refine r_istore O [(5, .int x133), (0, .retAddr 0), (1, .ref l1), (2, .ref l2), (3, .ref l3), (4, .int l4)] dL_law_975 (by decide) rfl ?_
                              refine r_aload_n O 3 dL_law_977 rfl (Or.inl rfl) ?_
                              refine r_aload_n O 1 dL_law_978 rfl (Or.inr ⟨_, rfl⟩) ?_
                              refine r_iload O 5 dL_law_979 rfl ?_
                              refine r_iconst O (v := 1) dL_law_981 (by decide) ?_
                              refine r_iadd O dL_law_982 ?_
                              obtain ⟨x135, ex135, hf⟩ := bnd hf
                              refine r_scI O hX ex135 dL_law_983 ?_
                              refine r_aload_n O 1 dL_law_984 rfl (Or.inr ⟨_, rfl⟩) ?_
                              refine r_iload O 5 dL_law_985 rfl ?_
                              refine r_iconst O (v := 2) dL_law_987 (by decide) ?_
                              refine r_iadd O dL_law_988 ?_
                              obtain ⟨x136, ex136, hf⟩ := bnd hf
                              refine r_scI O hX ex136 dL_law_989 ?_
                              refine r_aload_n O 1 dL_law_990 rfl (Or.inr ⟨_, rfl⟩) ?_
                              refine r_iload O 5 dL_law_991 rfl ?_
                              refine r_iconst O (v := 3) dL_law_993 (by decide) ?_
                              refine r_iadd O dL_law_994 ?_
                              obtain ⟨x137, ex137, hf⟩ := bnd hf
                              refine r_scI O hX ex137 dL_law_995 ?_
                              obtain ⟨⟨x138, h139⟩, ex138, hf⟩ := bnd hf
                              dsimp only at hf
                              refine r_callV (av := [.int x135, .int x136, .int x137]) (st := []) O (c_X9_fact ex138) mf_X9_fact cf9 (kd_X9_fact ex138) ml_L_145 mi_X9_fact mv_X9_fact (by decide) (Nat.le_of_ble_eq_true rfl) ⟨by show (kc + 14) ≤ 601024; omega, by show (nc + 830) ≤ 7293034; omega⟩ dL_law_996 ?_
                              refine r_istore O [(6, .int x138), (5, .int x133), (0, .retAddr 0), (1, .ref l1), (2, .ref l2), (3, .ref l3), (4, .int l4)] dL_law_999 (by decide) rfl ?_
                              refine r_aload_n O 4 dL_law_1001 rfl (Or.inl rfl) ?_
                              obtain ⟨x140, ex140, hf⟩ := bnd hf
                              refine r_callV (av := []) (st := []) O (c_X9_thrown ex140) mf_X9_thrown cf9 (kd_X9_thrown ex140) ml_L_106 mi_X9_thrown mv_X9_thrown (by decide) (Nat.le_of_ble_eq_true rfl) ⟨by show (kc + 14) ≤ 601024; omega, by show (nc + 830) ≤ 7293034; omega⟩ dL_law_1002 ?_
                              refine r_iload O 1 dL_law_1005 rfl ?_
                              by_cases hc : x140 = x133
                              · rw [if_pos hc] at hf
                                refine r_icmp_eq_t (tgt := 1012) O dL_law_1007 (by decide) hc ?_
                                refine r_iload O 1 dL_law_1012 rfl ?_
                                by_cases hc : x133 = 0
                                · rw [if_pos hc] at hf
                                  refine r_if_ne_f (tgt := 1029) O dL_law_1014 (by decide) hc ?_
                                  refine r_aload_n O 5 dL_law_1017 rfl (Or.inl rfl) ?_
                                  refine r_iconst O (v := 0) dL_law_1018 (by decide) ?_
                                  obtain ⟨x142, ex142, hf⟩ := bnd hf
                                  refine r_ldJ O ex142 dL_law_1019 ?_
                                  refine r_iload O 0 dL_law_1020 rfl ?_
                                  refine r_i2l O dL_law_1022 ?_
                                  refine r_lcmp O dL_law_1023 ?_
                                  by_cases hc : (lg_cmp x142 x138.toInt64) = 0
                                  · rw [if_pos hc] at hf
                                    refine r_if_eq_t (tgt := 1029) O dL_law_1024 (by decide) hc ?_
                                    refine r_goto (tgt := 1874) O dL_law_1029 (by decide) ?_
                                    refine r_iinc O 6 [(4, .int (l4 + 5)), (6, .int x138), (5, .int x133), (0, .retAddr 0), (1, .ref l1), (2, .ref l2), (3, .ref l3)] dL_law_1874 rfl rfl (by decide) rfl ?_
                                    refine r_goto (tgt := 23) O dL_law_1877 (by decide) ?_
                                    refine AW.widen (k' := kc + 15) (n' := nc + 836) (by omega) (by omega) (AW.sub [3, 4, 5, 6, 0] rfl ?_)
                                    exact ih _ _ (by omega) (by omega) _ _ hf
                                  · rw [if_neg hc] at hf
                                    refine r_if_eq_f (tgt := 1029) O dL_law_1024 (by decide) hc ?_
                                    refine r_iconst O (v := 0) dL_law_1027 (by decide) ?_
                                    cases hf
                                · rw [if_neg hc] at hf
                                  refine r_if_ne_t (tgt := 1029) O dL_law_1014 (by decide) hc ?_
                                  refine r_goto (tgt := 1874) O dL_law_1029 (by decide) ?_
                                  refine r_iinc O 6 [(4, .int (l4 + 5)), (6, .int x138), (5, .int x133), (0, .retAddr 0), (1, .ref l1), (2, .ref l2), (3, .ref l3)] dL_law_1874 rfl rfl (by decide) rfl ?_
                                  refine r_goto (tgt := 23) O dL_law_1877 (by decide) ?_
                                  refine AW.widen (k' := kc + 15) (n' := nc + 836) (by omega) (by omega) (AW.sub [3, 4, 5, 6, 0] rfl ?_)
                                  exact ih _ _ (by omega) (by omega) _ _ hf
                              · rw [if_neg hc] at hf
                                refine r_icmp_eq_f (tgt := 1012) O dL_law_1007 (by decide) hc ?_
                                refine r_iconst O (v := 0) dL_law_1010 (by decide) ?_
                                cases hf
                            · rw [if_neg hc] at hf
                              have hn952 := hc
                              by_cases hc : x2 = 12
                              · rw [if_pos hc] at hf
                                refine r_table_in (off := 993) (tgt := 1032) O dL_law_39 (by (rw [hc]; decide)) (by (rw [hc]; decide)) (by (rw [hc]; rfl)) (by decide) ?_
                                refine r_aload_n O 1 dL_law_1032 rfl (Or.inl rfl) ?_
                                refine r_aload_n O 0 dL_law_1033 rfl (Or.inr ⟨_, rfl⟩) ?_
                                refine r_iload O 4 dL_law_1034 rfl ?_
                                refine r_iconst O (v := 1) dL_law_1036 (by decide) ?_
                                refine r_iadd O dL_law_1037 ?_
                                obtain ⟨x143, ex143, hf⟩ := bnd hf
                                refine r_scI O hX ex143 dL_law_1038 ?_
                                refine r_aload_n O 0 dL_law_1039 rfl (Or.inr ⟨_, rfl⟩) ?_
                                refine r_iload O 4 dL_law_1040 rfl ?_
                                refine r_iconst O (v := 2) dL_law_1042 (by decide) ?_
                                refine r_iadd O dL_law_1043 ?_
                                obtain ⟨x144, ex144, hf⟩ := bnd hf
                                refine r_scI O hX ex144 dL_law_1044 ?_
                                refine r_aload_n O 0 dL_law_1045 rfl (Or.inr ⟨_, rfl⟩) ?_
                                refine r_iload O 4 dL_law_1046 rfl ?_
                                refine r_iconst O (v := 3) dL_law_1048 (by decide) ?_
                                refine r_iadd O dL_law_1049 ?_
                                obtain ⟨x145, ex145, hf⟩ := bnd hf
                                refine r_scI O hX ex145 dL_law_1050 ?_
                                refine r_aload_n O 3 dL_law_1051 rfl (Or.inl rfl) ?_
                                obtain ⟨⟨x146, h147⟩, ex146, hf⟩ := bnd hf
                                dsimp only at hf
                                refine r_callSW (av := [.ref l1, .int x143, .int x144, .int x145, .ref l3]) (st := []) O (c_L_listFact ex146) mf_L_listFact ml_L_146 ms_L_listFact (by decide) (Nat.le_of_ble_eq_true rfl) ⟨by show (kc + 14) ≤ 601024; omega, by show (nc + 830) ≤ 7293034; omega⟩ dL_law_1052 ?_
                                refine r_istore O [(5, .int x146), (0, .retAddr 0), (1, .ref l1), (2, .ref l2), (3, .ref l3), (4, .int l4)] dL_law_1055 (by decide) rfl ?_
                                refine r_aload_n O 3 dL_law_1057 rfl (Or.inl rfl) ?_
                                refine r_aload_n O 1 dL_law_1058 rfl (Or.inr ⟨_, rfl⟩) ?_
                                refine r_iload O 5 dL_law_1059 rfl ?_
                                refine r_iconst O (v := 1) dL_law_1061 (by decide) ?_
                                refine r_iadd O dL_law_1062 ?_
                                obtain ⟨x148, ex148, hf⟩ := bnd hf
                                refine r_scI O hX ex148 dL_law_1063 ?_
                                refine r_aload_n O 1 dL_law_1064 rfl (Or.inr ⟨_, rfl⟩) ?_
                                refine r_iload O 5 dL_law_1065 rfl ?_
                                refine r_iconst O (v := 2) dL_law_1067 (by decide) ?_
                                refine r_iadd O dL_law_1068 ?_
                                obtain ⟨x149, ex149, hf⟩ := bnd hf
                                refine r_scI O hX ex149 dL_law_1069 ?_
                                refine r_aload_n O 1 dL_law_1070 rfl (Or.inr ⟨_, rfl⟩) ?_
                                refine r_iload O 5 dL_law_1071 rfl ?_
                                refine r_iconst O (v := 3) dL_law_1073 (by decide) ?_
                                refine r_iadd O dL_law_1074 ?_
                                obtain ⟨x150, ex150, hf⟩ := bnd hf
                                refine r_scI O hX ex150 dL_law_1075 ?_
                                obtain ⟨⟨x151, h152⟩, ex151, hf⟩ := bnd hf
                                dsimp only at hf
                                refine r_callV (av := [.int x148, .int x149, .int x150]) (st := []) O (c_X9_listFact ex151) mf_X9_listFact cf9 (kd_X9_listFact ex151) ml_L_148 mi_X9_listFact mv_X9_listFact (by decide) (Nat.le_of_ble_eq_true rfl) ⟨by show (kc + 14) ≤ 601024; omega, by show (nc + 830) ≤ 7293034; omega⟩ dL_law_1076 ?_
                                refine r_istore O [(6, .int x151), (5, .int x146), (0, .retAddr 0), (1, .ref l1), (2, .ref l2), (3, .ref l3), (4, .int l4)] dL_law_1079 (by decide) rfl ?_
                                refine r_aload_n O 4 dL_law_1081 rfl (Or.inl rfl) ?_
                                obtain ⟨x153, ex153, hf⟩ := bnd hf
                                refine r_callV (av := []) (st := []) O (c_X9_thrown ex153) mf_X9_thrown cf9 (kd_X9_thrown ex153) ml_L_106 mi_X9_thrown mv_X9_thrown (by decide) (Nat.le_of_ble_eq_true rfl) ⟨by show (kc + 14) ≤ 601024; omega, by show (nc + 830) ≤ 7293034; omega⟩ dL_law_1082 ?_
                                refine r_iload O 1 dL_law_1085 rfl ?_
                                by_cases hc : x153 = x146
                                · rw [if_pos hc] at hf
                                  refine r_icmp_eq_t (tgt := 1092) O dL_law_1087 (by decide) hc ?_
                                  refine r_iload O 1 dL_law_1092 rfl ?_
                                  by_cases hc : x146 = 0
                                  · rw [if_pos hc] at hf
                                    refine r_if_ne_f (tgt := 1109) O dL_law_1094 (by decide) hc ?_
                                    refine r_aload_n O 5 dL_law_1097 rfl (Or.inl rfl) ?_
                                    refine r_iconst O (v := 0) dL_law_1098 (by decide) ?_
                                    obtain ⟨x155, ex155, hf⟩ := bnd hf
                                    refine r_ldJ O ex155 dL_law_1099 ?_
                                    refine r_iload O 0 dL_law_1100 rfl ?_
                                    refine r_i2l O dL_law_1102 ?_
                                    refine r_lcmp O dL_law_1103 ?_
                                    by_cases hc : (lg_cmp x155 x151.toInt64) = 0
                                    · rw [if_pos hc] at hf
                                      refine r_if_eq_t (tgt := 1109) O dL_law_1104 (by decide) hc ?_
                                      refine r_goto (tgt := 1874) O dL_law_1109 (by decide) ?_
                                      refine r_iinc O 6 [(4, .int (l4 + 5)), (6, .int x151), (5, .int x146), (0, .retAddr 0), (1, .ref l1), (2, .ref l2), (3, .ref l3)] dL_law_1874 rfl rfl (by decide) rfl ?_
                                      refine r_goto (tgt := 23) O dL_law_1877 (by decide) ?_
                                      refine AW.widen (k' := kc + 15) (n' := nc + 836) (by omega) (by omega) (AW.sub [3, 4, 5, 6, 0] rfl ?_)
                                      exact ih _ _ (by omega) (by omega) _ _ hf
                                    · rw [if_neg hc] at hf
                                      refine r_if_eq_f (tgt := 1109) O dL_law_1104 (by decide) hc ?_
                                      refine r_iconst O (v := 0) dL_law_1107 (by decide) ?_
                                      cases hf
                                  · rw [if_neg hc] at hf
                                    refine r_if_ne_t (tgt := 1109) O dL_law_1094 (by decide) hc ?_
                                    refine r_goto (tgt := 1874) O dL_law_1109 (by decide) ?_
                                    refine r_iinc O 6 [(4, .int (l4 + 5)), (6, .int x151), (5, .int x146), (0, .retAddr 0), (1, .ref l1), (2, .ref l2), (3, .ref l3)] dL_law_1874 rfl rfl (by decide) rfl ?_
                                    refine r_goto (tgt := 23) O dL_law_1877 (by decide) ?_
                                    refine AW.widen (k' := kc + 15) (n' := nc + 836) (by omega) (by omega) (AW.sub [3, 4, 5, 6, 0] rfl ?_)
                                    exact ih _ _ (by omega) (by omega) _ _ hf
                                · rw [if_neg hc] at hf
                                  refine r_icmp_eq_f (tgt := 1092) O dL_law_1087 (by decide) hc ?_
                                  refine r_iconst O (v := 0) dL_law_1090 (by decide) ?_
                                  cases hf
                              · rw [if_neg hc] at hf
                                have hn1032 := hc
                                by_cases hc : x2 = 13
                                · rw [if_pos hc] at hf
                                  refine r_table_in (off := 1073) (tgt := 1112) O dL_law_39 (by (rw [hc]; decide)) (by (rw [hc]; decide)) (by (rw [hc]; rfl)) (by decide) ?_
                                  refine r_aload_n O 1 dL_law_1112 rfl (Or.inl rfl) ?_
                                  refine r_aload_n O 0 dL_law_1113 rfl (Or.inr ⟨_, rfl⟩) ?_
                                  refine r_iload O 4 dL_law_1114 rfl ?_
                                  refine r_iconst O (v := 1) dL_law_1116 (by decide) ?_
                                  refine r_iadd O dL_law_1117 ?_
                                  obtain ⟨x156, ex156, hf⟩ := bnd hf
                                  refine r_scI O hX ex156 dL_law_1118 ?_
                                  refine r_aload_n O 0 dL_law_1119 rfl (Or.inr ⟨_, rfl⟩) ?_
                                  refine r_iload O 4 dL_law_1120 rfl ?_
                                  refine r_iconst O (v := 2) dL_law_1122 (by decide) ?_
                                  refine r_iadd O dL_law_1123 ?_
                                  obtain ⟨x157, ex157, hf⟩ := bnd hf
                                  refine r_scI O hX ex157 dL_law_1124 ?_
                                  refine r_aload_n O 3 dL_law_1125 rfl (Or.inl rfl) ?_
                                  obtain ⟨⟨x158, h159⟩, ex158, hf⟩ := bnd hf
                                  dsimp only at hf
                                  refine r_callSW (av := [.ref l1, .int x156, .int x157, .ref l3]) (st := []) O (c_L_link ex158) mf_L_link ml_L_149 ms_L_link (by decide) (Nat.le_of_ble_eq_true rfl) ⟨by show (kc + 15) ≤ 601024; omega, by show (nc + 836) ≤ 7293034; omega⟩ dL_law_1126 ?_
                                  refine r_istore O [(5, .int x158), (0, .retAddr 0), (1, .ref l1), (2, .ref l2), (3, .ref l3), (4, .int l4)] dL_law_1129 (by decide) rfl ?_
                                  refine r_aload_n O 3 dL_law_1131 rfl (Or.inl rfl) ?_
                                  refine r_aload_n O 1 dL_law_1132 rfl (Or.inr ⟨_, rfl⟩) ?_
                                  refine r_iload O 5 dL_law_1133 rfl ?_
                                  refine r_iconst O (v := 1) dL_law_1135 (by decide) ?_
                                  refine r_iadd O dL_law_1136 ?_
                                  obtain ⟨x160, ex160, hf⟩ := bnd hf
                                  refine r_scI O hX ex160 dL_law_1137 ?_
                                  refine r_aload_n O 1 dL_law_1138 rfl (Or.inr ⟨_, rfl⟩) ?_
                                  refine r_iload O 5 dL_law_1139 rfl ?_
                                  refine r_iconst O (v := 2) dL_law_1141 (by decide) ?_
                                  refine r_iadd O dL_law_1142 ?_
                                  obtain ⟨x161, ex161, hf⟩ := bnd hf
                                  refine r_scI O hX ex161 dL_law_1143 ?_
                                  obtain ⟨⟨x162, h163⟩, ex162, hf⟩ := bnd hf
                                  dsimp only at hf
                                  refine r_callV (av := [.int x160, .int x161]) (st := []) O (c_X9_link ex162) mf_X9_link cf9 (kd_X9_link ex162) ml_L_151 mi_X9_link mv_X9_link (by decide) (Nat.le_of_ble_eq_true rfl) ⟨by show (kc + 15) ≤ 601024; omega, by show (nc + 836) ≤ 7293034; omega⟩ dL_law_1144 ?_
                                  refine r_istore O [(6, .int x162), (5, .int x158), (0, .retAddr 0), (1, .ref l1), (2, .ref l2), (3, .ref l3), (4, .int l4)] dL_law_1147 (by decide) rfl ?_
                                  refine r_aload_n O 4 dL_law_1149 rfl (Or.inl rfl) ?_
                                  obtain ⟨x164, ex164, hf⟩ := bnd hf
                                  refine r_callV (av := []) (st := []) O (c_X9_thrown ex164) mf_X9_thrown cf9 (kd_X9_thrown ex164) ml_L_106 mi_X9_thrown mv_X9_thrown (by decide) (Nat.le_of_ble_eq_true rfl) ⟨by show (kc + 15) ≤ 601024; omega, by show (nc + 836) ≤ 7293034; omega⟩ dL_law_1150 ?_
                                  refine r_iload O 1 dL_law_1153 rfl ?_
                                  by_cases hc : x164 = x158
                                  · rw [if_pos hc] at hf
                                    refine r_icmp_eq_t (tgt := 1160) O dL_law_1155 (by decide) hc ?_
                                    refine r_iload O 1 dL_law_1160 rfl ?_
                                    by_cases hc : x158 = 0
                                    · rw [if_pos hc] at hf
                                      refine r_if_ne_f (tgt := 1177) O dL_law_1162 (by decide) hc ?_
                                      refine r_aload_n O 5 dL_law_1165 rfl (Or.inl rfl) ?_
                                      refine r_iconst O (v := 0) dL_law_1166 (by decide) ?_
                                      obtain ⟨x166, ex166, hf⟩ := bnd hf
                                      refine r_ldJ O ex166 dL_law_1167 ?_
                                      refine r_iload O 0 dL_law_1168 rfl ?_
                                      refine r_i2l O dL_law_1170 ?_
                                      refine r_lcmp O dL_law_1171 ?_
                                      by_cases hc : (lg_cmp x166 x162.toInt64) = 0
                                      · rw [if_pos hc] at hf
                                        refine r_if_eq_t (tgt := 1177) O dL_law_1172 (by decide) hc ?_
                                        refine r_goto (tgt := 1874) O dL_law_1177 (by decide) ?_
                                        refine r_iinc O 6 [(4, .int (l4 + 5)), (6, .int x162), (5, .int x158), (0, .retAddr 0), (1, .ref l1), (2, .ref l2), (3, .ref l3)] dL_law_1874 rfl rfl (by decide) rfl ?_
                                        refine r_goto (tgt := 23) O dL_law_1877 (by decide) ?_
                                        refine AW.widen (k' := kc + 15) (n' := nc + 836) (by omega) (by omega) (AW.sub [3, 4, 5, 6, 0] rfl ?_)
                                        exact ih _ _ (by omega) (by omega) _ _ hf
                                      · rw [if_neg hc] at hf
                                        refine r_if_eq_f (tgt := 1177) O dL_law_1172 (by decide) hc ?_
                                        refine r_iconst O (v := 0) dL_law_1175 (by decide) ?_
                                        cases hf
                                    · rw [if_neg hc] at hf
                                      refine r_if_ne_t (tgt := 1177) O dL_law_1162 (by decide) hc ?_
                                      refine r_goto (tgt := 1874) O dL_law_1177 (by decide) ?_
                                      refine r_iinc O 6 [(4, .int (l4 + 5)), (6, .int x162), (5, .int x158), (0, .retAddr 0), (1, .ref l1), (2, .ref l2), (3, .ref l3)] dL_law_1874 rfl rfl (by decide) rfl ?_
                                      refine r_goto (tgt := 23) O dL_law_1877 (by decide) ?_
                                      refine AW.widen (k' := kc + 15) (n' := nc + 836) (by omega) (by omega) (AW.sub [3, 4, 5, 6, 0] rfl ?_)
                                      exact ih _ _ (by omega) (by omega) _ _ hf
                                  · rw [if_neg hc] at hf
                                    refine r_icmp_eq_f (tgt := 1160) O dL_law_1155 (by decide) hc ?_
                                    refine r_iconst O (v := 0) dL_law_1158 (by decide) ?_
                                    cases hf
                                · rw [if_neg hc] at hf
                                  have hn1112 := hc
                                  by_cases hc : x2 = 14
                                  · rw [if_pos hc] at hf
                                    refine r_table_in (off := 1141) (tgt := 1180) O dL_law_39 (by (rw [hc]; decide)) (by (rw [hc]; decide)) (by (rw [hc]; rfl)) (by decide) ?_
                                    refine r_aload_n O 1 dL_law_1180 rfl (Or.inl rfl) ?_
                                    refine r_aload_n O 0 dL_law_1181 rfl (Or.inr ⟨_, rfl⟩) ?_
                                    refine r_iload O 4 dL_law_1182 rfl ?_
                                    refine r_iconst O (v := 1) dL_law_1184 (by decide) ?_
                                    refine r_iadd O dL_law_1185 ?_
                                    obtain ⟨x167, ex167, hf⟩ := bnd hf
                                    refine r_scI O hX ex167 dL_law_1186 ?_
                                    refine r_aload_n O 0 dL_law_1187 rfl (Or.inr ⟨_, rfl⟩) ?_
                                    refine r_iload O 4 dL_law_1188 rfl ?_
                                    refine r_iconst O (v := 2) dL_law_1190 (by decide) ?_
                                    refine r_iadd O dL_law_1191 ?_
                                    obtain ⟨x168, ex168, hf⟩ := bnd hf
                                    refine r_scI O hX ex168 dL_law_1192 ?_
                                    refine r_aload_n O 3 dL_law_1193 rfl (Or.inl rfl) ?_
                                    obtain ⟨⟨x169, h170⟩, ex169, hf⟩ := bnd hf
                                    dsimp only at hf
                                    refine r_callSW (av := [.ref l1, .int x167, .int x168, .ref l3]) (st := []) O (c_L_freeze ex169) mf_L_freeze ml_L_152 ms_L_freeze (by decide) (Nat.le_of_ble_eq_true rfl) ⟨by show (kc + 14) ≤ 601024; omega, by show (nc + 830) ≤ 7293034; omega⟩ dL_law_1194 ?_
                                    refine r_istore O [(5, .int x169), (0, .retAddr 0), (1, .ref l1), (2, .ref l2), (3, .ref l3), (4, .int l4)] dL_law_1197 (by decide) rfl ?_
                                    refine r_aload_n O 3 dL_law_1199 rfl (Or.inl rfl) ?_
                                    refine r_aload_n O 1 dL_law_1200 rfl (Or.inr ⟨_, rfl⟩) ?_
                                    refine r_iload O 5 dL_law_1201 rfl ?_
                                    refine r_iconst O (v := 1) dL_law_1203 (by decide) ?_
                                    refine r_iadd O dL_law_1204 ?_
                                    obtain ⟨x171, ex171, hf⟩ := bnd hf
                                    refine r_scI O hX ex171 dL_law_1205 ?_
                                    refine r_aload_n O 1 dL_law_1206 rfl (Or.inr ⟨_, rfl⟩) ?_
                                    refine r_iload O 5 dL_law_1207 rfl ?_
                                    refine r_iconst O (v := 2) dL_law_1209 (by decide) ?_
                                    refine r_iadd O dL_law_1210 ?_
                                    obtain ⟨x172, ex172, hf⟩ := bnd hf
                                    refine r_scI O hX ex172 dL_law_1211 ?_
                                    obtain ⟨⟨x173, h174⟩, ex173, hf⟩ := bnd hf
                                    dsimp only at hf
                                    refine r_callV (av := [.int x171, .int x172]) (st := []) O (c_X9_freeze ex173) mf_X9_freeze cf9 (kd_X9_freeze ex173) ml_L_154 mi_X9_freeze mv_X9_freeze (by decide) (Nat.le_of_ble_eq_true rfl) ⟨by show (kc + 14) ≤ 601024; omega, by show (nc + 830) ≤ 7293034; omega⟩ dL_law_1212 ?_
                                    refine r_istore O [(6, .int x173), (5, .int x169), (0, .retAddr 0), (1, .ref l1), (2, .ref l2), (3, .ref l3), (4, .int l4)] dL_law_1215 (by decide) rfl ?_
                                    refine r_aload_n O 4 dL_law_1217 rfl (Or.inl rfl) ?_
                                    obtain ⟨x175, ex175, hf⟩ := bnd hf
                                    refine r_callV (av := []) (st := []) O (c_X9_thrown ex175) mf_X9_thrown cf9 (kd_X9_thrown ex175) ml_L_106 mi_X9_thrown mv_X9_thrown (by decide) (Nat.le_of_ble_eq_true rfl) ⟨by show (kc + 14) ≤ 601024; omega, by show (nc + 830) ≤ 7293034; omega⟩ dL_law_1218 ?_
                                    refine r_iload O 1 dL_law_1221 rfl ?_
                                    by_cases hc : x175 = x169
                                    · rw [if_pos hc] at hf
                                      refine r_icmp_eq_t (tgt := 1228) O dL_law_1223 (by decide) hc ?_
                                      refine r_iload O 1 dL_law_1228 rfl ?_
                                      by_cases hc : x169 = 0
                                      · rw [if_pos hc] at hf
                                        refine r_if_ne_f (tgt := 1245) O dL_law_1230 (by decide) hc ?_
                                        refine r_aload_n O 5 dL_law_1233 rfl (Or.inl rfl) ?_
                                        refine r_iconst O (v := 0) dL_law_1234 (by decide) ?_
                                        obtain ⟨x177, ex177, hf⟩ := bnd hf
                                        refine r_ldJ O ex177 dL_law_1235 ?_
                                        refine r_iload O 0 dL_law_1236 rfl ?_
                                        refine r_i2l O dL_law_1238 ?_
                                        refine r_lcmp O dL_law_1239 ?_
                                        by_cases hc : (lg_cmp x177 x173.toInt64) = 0
                                        · rw [if_pos hc] at hf
                                          refine r_if_eq_t (tgt := 1245) O dL_law_1240 (by decide) hc ?_
                                          refine r_goto (tgt := 1874) O dL_law_1245 (by decide) ?_
                                          refine r_iinc O 6 [(4, .int (l4 + 5)), (6, .int x173), (5, .int x169), (0, .retAddr 0), (1, .ref l1), (2, .ref l2), (3, .ref l3)] dL_law_1874 rfl rfl (by decide) rfl ?_
                                          refine r_goto (tgt := 23) O dL_law_1877 (by decide) ?_
                                          refine AW.widen (k' := kc + 15) (n' := nc + 836) (by omega) (by omega) (AW.sub [3, 4, 5, 6, 0] rfl ?_)
                                          exact ih _ _ (by omega) (by omega) _ _ hf
                                        · rw [if_neg hc] at hf
                                          refine r_if_eq_f (tgt := 1245) O dL_law_1240 (by decide) hc ?_
                                          refine r_iconst O (v := 0) dL_law_1243 (by decide) ?_
                                          cases hf
                                      · rw [if_neg hc] at hf
                                        refine r_if_ne_t (tgt := 1245) O dL_law_1230 (by decide) hc ?_
                                        refine r_goto (tgt := 1874) O dL_law_1245 (by decide) ?_
                                        refine r_iinc O 6 [(4, .int (l4 + 5)), (6, .int x173), (5, .int x169), (0, .retAddr 0), (1, .ref l1), (2, .ref l2), (3, .ref l3)] dL_law_1874 rfl rfl (by decide) rfl ?_
                                        refine r_goto (tgt := 23) O dL_law_1877 (by decide) ?_
                                        refine AW.widen (k' := kc + 15) (n' := nc + 836) (by omega) (by omega) (AW.sub [3, 4, 5, 6, 0] rfl ?_)
                                        exact ih _ _ (by omega) (by omega) _ _ hf
                                    · rw [if_neg hc] at hf
                                      refine r_icmp_eq_f (tgt := 1228) O dL_law_1223 (by decide) hc ?_
                                      refine r_iconst O (v := 0) dL_law_1226 (by decide) ?_
                                      cases hf
                                  · rw [if_neg hc] at hf
                                    have hn1180 := hc
                                    by_cases hc : x2 = 15
                                    · rw [if_pos hc] at hf
                                      refine r_table_in (off := 1209) (tgt := 1248) O dL_law_39 (by (rw [hc]; decide)) (by (rw [hc]; decide)) (by (rw [hc]; rfl)) (by decide) ?_
                                      refine r_aload_n O 1 dL_law_1248 rfl (Or.inl rfl) ?_
                                      obtain ⟨⟨x178, h179⟩, ex178, hf⟩ := bnd hf
                                      dsimp only at hf
                                      refine r_callSW (av := [.ref l1]) (st := []) O (c_L_begin ex178) mf_L_begin ml_L_155 ms_L_begin (by decide) (Nat.le_of_ble_eq_true rfl) ⟨by show (kc + 2) ≤ 601024; omega, by show (nc + 12) ≤ 7293034; omega⟩ dL_law_1249 ?_
                                      refine r_istore O [(5, .int x178), (0, .retAddr 0), (1, .ref l1), (2, .ref l2), (3, .ref l3), (4, .int l4)] dL_law_1252 (by decide) rfl ?_
                                      refine r_aload_n O 3 dL_law_1254 rfl (Or.inl rfl) ?_
                                      obtain ⟨h181, eh181, hf⟩ := bnd hf
                                      refine r_callV (av := []) (st := []) O (c_X9_begin eh181) mf_X9_begin cf9 (kd_X9_begin eh181) ml_L_158 mi_X9_begin mv_X9_begin (by decide) (Nat.le_of_ble_eq_true rfl) ⟨by show (kc + 2) ≤ 601024; omega, by show (nc + 12) ≤ 7293034; omega⟩ dL_law_1255 ?_
                                      refine r_aload_n O 3 dL_law_1258 rfl (Or.inl rfl) ?_
                                      obtain ⟨x182, ex182, hf⟩ := bnd hf
                                      refine r_callV (av := []) (st := []) O (c_X9_thrown ex182) mf_X9_thrown cf9 (kd_X9_thrown ex182) ml_L_106 mi_X9_thrown mv_X9_thrown (by decide) (Nat.le_of_ble_eq_true rfl) ⟨by show (kc + 2) ≤ 601024; omega, by show (nc + 12) ≤ 7293034; omega⟩ dL_law_1259 ?_
                                      refine r_iload O 0 dL_law_1262 rfl ?_
                                      by_cases hc : x182 = x178
                                      · rw [if_pos hc] at hf
                                        refine r_icmp_eq_t (tgt := 1269) O dL_law_1264 (by decide) hc ?_
                                        refine r_goto (tgt := 1874) O dL_law_1269 (by decide) ?_
                                        refine r_iinc O 5 [(4, .int (l4 + 5)), (5, .int x178), (0, .retAddr 0), (1, .ref l1), (2, .ref l2), (3, .ref l3)] dL_law_1874 rfl rfl (by decide) rfl ?_
                                        refine r_goto (tgt := 23) O dL_law_1877 (by decide) ?_
                                        refine AW.widen (k' := kc + 15) (n' := nc + 836) (by omega) (by omega) (AW.sub [2, 3, 4, 5, 0] rfl ?_)
                                        exact ih _ _ (by omega) (by omega) _ _ hf
                                      · rw [if_neg hc] at hf
                                        refine r_icmp_eq_f (tgt := 1269) O dL_law_1264 (by decide) hc ?_
                                        refine r_iconst O (v := 0) dL_law_1267 (by decide) ?_
                                        cases hf
                                    · rw [if_neg hc] at hf
                                      have hn1248 := hc
                                      by_cases hc : x2 = 16
                                      · rw [if_pos hc] at hf
                                        refine r_table_in (off := 1233) (tgt := 1272) O dL_law_39 (by (rw [hc]; decide)) (by (rw [hc]; decide)) (by (rw [hc]; rfl)) (by decide) ?_
                                        refine r_aload_n O 1 dL_law_1272 rfl (Or.inl rfl) ?_
                                        refine r_aload_n O 3 dL_law_1273 rfl (Or.inl rfl) ?_
                                        obtain ⟨⟨x184, h185⟩, ex184, hf⟩ := bnd hf
                                        dsimp only at hf
                                        refine r_callSW (av := [.ref l1, .ref l3]) (st := []) O (c_L_end ex184) mf_L_end ml_L_159 ms_L_end (by decide) (Nat.le_of_ble_eq_true rfl) ⟨by show (kc + 12) ≤ 601024; omega, by show (nc + 818) ≤ 7293034; omega⟩ dL_law_1274 ?_
                                        refine r_istore O [(5, .int x184), (0, .retAddr 0), (1, .ref l1), (2, .ref l2), (3, .ref l3), (4, .int l4)] dL_law_1277 (by decide) rfl ?_
                                        refine r_aload_n O 3 dL_law_1279 rfl (Or.inl rfl) ?_
                                        obtain ⟨⟨x186, h187⟩, ex186, hf⟩ := bnd hf
                                        dsimp only at hf
                                        refine r_callV (av := []) (st := []) O (c_X9_end ex186) mf_X9_end cf9 (kd_X9_end ex186) ml_L_161 mi_X9_end mv_X9_end (by decide) (Nat.le_of_ble_eq_true rfl) ⟨by show (kc + 12) ≤ 601024; omega, by show (nc + 818) ≤ 7293034; omega⟩ dL_law_1280 ?_
                                        refine r_istore O [(6, .int x186), (5, .int x184), (0, .retAddr 0), (1, .ref l1), (2, .ref l2), (3, .ref l3), (4, .int l4)] dL_law_1283 (by decide) rfl ?_
                                        refine r_aload_n O 4 dL_law_1285 rfl (Or.inl rfl) ?_
                                        obtain ⟨x188, ex188, hf⟩ := bnd hf
                                        refine r_callV (av := []) (st := []) O (c_X9_thrown ex188) mf_X9_thrown cf9 (kd_X9_thrown ex188) ml_L_106 mi_X9_thrown mv_X9_thrown (by decide) (Nat.le_of_ble_eq_true rfl) ⟨by show (kc + 12) ≤ 601024; omega, by show (nc + 818) ≤ 7293034; omega⟩ dL_law_1286 ?_
                                        refine r_iload O 1 dL_law_1289 rfl ?_
                                        by_cases hc : x188 = x184
                                        · rw [if_pos hc] at hf
                                          refine r_icmp_eq_t (tgt := 1296) O dL_law_1291 (by decide) hc ?_
                                          refine r_iload O 1 dL_law_1296 rfl ?_
                                          by_cases hc : x184 = 0
                                          · rw [if_pos hc] at hf
                                            refine r_if_ne_f (tgt := 1313) O dL_law_1298 (by decide) hc ?_
                                            refine r_aload_n O 5 dL_law_1301 rfl (Or.inl rfl) ?_
                                            refine r_iconst O (v := 0) dL_law_1302 (by decide) ?_
                                            obtain ⟨x190, ex190, hf⟩ := bnd hf
                                            refine r_ldJ O ex190 dL_law_1303 ?_
                                            refine r_iload O 0 dL_law_1304 rfl ?_
                                            refine r_i2l O dL_law_1306 ?_
                                            refine r_lcmp O dL_law_1307 ?_
                                            by_cases hc : (lg_cmp x190 x186.toInt64) = 0
                                            · rw [if_pos hc] at hf
                                              refine r_if_eq_t (tgt := 1313) O dL_law_1308 (by decide) hc ?_
                                              refine r_goto (tgt := 1874) O dL_law_1313 (by decide) ?_
                                              refine r_iinc O 6 [(4, .int (l4 + 5)), (6, .int x186), (5, .int x184), (0, .retAddr 0), (1, .ref l1), (2, .ref l2), (3, .ref l3)] dL_law_1874 rfl rfl (by decide) rfl ?_
                                              refine r_goto (tgt := 23) O dL_law_1877 (by decide) ?_
                                              refine AW.widen (k' := kc + 15) (n' := nc + 836) (by omega) (by omega) (AW.sub [3, 4, 5, 6, 0] rfl ?_)
                                              exact ih _ _ (by omega) (by omega) _ _ hf
                                            · rw [if_neg hc] at hf
                                              refine r_if_eq_f (tgt := 1313) O dL_law_1308 (by decide) hc ?_
                                              refine r_iconst O (v := 0) dL_law_1311 (by decide) ?_
                                              cases hf
                                          · rw [if_neg hc] at hf
                                            refine r_if_ne_t (tgt := 1313) O dL_law_1298 (by decide) hc ?_
                                            refine r_goto (tgt := 1874) O dL_law_1313 (by decide) ?_
                                            refine r_iinc O 6 [(4, .int (l4 + 5)), (6, .int x186), (5, .int x184), (0, .retAddr 0), (1, .ref l1), (2, .ref l2), (3, .ref l3)] dL_law_1874 rfl rfl (by decide) rfl ?_
                                            refine r_goto (tgt := 23) O dL_law_1877 (by decide) ?_
                                            refine AW.widen (k' := kc + 15) (n' := nc + 836) (by omega) (by omega) (AW.sub [3, 4, 5, 6, 0] rfl ?_)
                                            exact ih _ _ (by omega) (by omega) _ _ hf
                                        · rw [if_neg hc] at hf
                                          refine r_icmp_eq_f (tgt := 1296) O dL_law_1291 (by decide) hc ?_
                                          refine r_iconst O (v := 0) dL_law_1294 (by decide) ?_
                                          cases hf
                                      · rw [if_neg hc] at hf
                                        have hn1272 := hc
                                        by_cases hc : x2 = 17
                                        · rw [if_pos hc] at hf
                                          refine r_table_in (off := 1277) (tgt := 1316) O dL_law_39 (by (rw [hc]; decide)) (by (rw [hc]; decide)) (by (rw [hc]; rfl)) (by decide) ?_
                                          refine r_aload_n O 1 dL_law_1316 rfl (Or.inl rfl) ?_
                                          refine r_aload_n O 3 dL_law_1317 rfl (Or.inl rfl) ?_
                                          obtain ⟨⟨x191, h192⟩, ex191, hf⟩ := bnd hf
                                          dsimp only at hf
                                          refine r_callSW (av := [.ref l1, .ref l3]) (st := []) O (c_L_drop ex191) mf_L_drop ml_L_162 ms_L_drop (by decide) (Nat.le_of_ble_eq_true rfl) ⟨by show (kc + 1) ≤ 601024; omega, by show (nc + 6) ≤ 7293034; omega⟩ dL_law_1318 ?_
                                          refine r_istore O [(5, .int x191), (0, .retAddr 0), (1, .ref l1), (2, .ref l2), (3, .ref l3), (4, .int l4)] dL_law_1321 (by decide) rfl ?_
                                          refine r_aload_n O 3 dL_law_1323 rfl (Or.inl rfl) ?_
                                          obtain ⟨⟨x193, h194⟩, ex193, hf⟩ := bnd hf
                                          dsimp only at hf
                                          refine r_callV (av := []) (st := []) O (c_X9_drop ex193) mf_X9_drop cf9 (kd_X9_drop ex193) ml_L_164 mi_X9_drop mv_X9_drop (by decide) (Nat.le_of_ble_eq_true rfl) ⟨by show (kc + 1) ≤ 601024; omega, by show (nc + 6) ≤ 7293034; omega⟩ dL_law_1324 ?_
                                          refine r_istore O [(6, .int x193), (5, .int x191), (0, .retAddr 0), (1, .ref l1), (2, .ref l2), (3, .ref l3), (4, .int l4)] dL_law_1327 (by decide) rfl ?_
                                          refine r_aload_n O 4 dL_law_1329 rfl (Or.inl rfl) ?_
                                          obtain ⟨x195, ex195, hf⟩ := bnd hf
                                          refine r_callV (av := []) (st := []) O (c_X9_thrown ex195) mf_X9_thrown cf9 (kd_X9_thrown ex195) ml_L_106 mi_X9_thrown mv_X9_thrown (by decide) (Nat.le_of_ble_eq_true rfl) ⟨by show (kc + 1) ≤ 601024; omega, by show (nc + 6) ≤ 7293034; omega⟩ dL_law_1330 ?_
                                          refine r_iload O 1 dL_law_1333 rfl ?_
                                          by_cases hc : x195 = x191
                                          · rw [if_pos hc] at hf
                                            refine r_icmp_eq_t (tgt := 1340) O dL_law_1335 (by decide) hc ?_
                                            refine r_iload O 1 dL_law_1340 rfl ?_
                                            by_cases hc : x191 = 0
                                            · rw [if_pos hc] at hf
                                              refine r_if_ne_f (tgt := 1357) O dL_law_1342 (by decide) hc ?_
                                              refine r_aload_n O 5 dL_law_1345 rfl (Or.inl rfl) ?_
                                              refine r_iconst O (v := 0) dL_law_1346 (by decide) ?_
                                              obtain ⟨x197, ex197, hf⟩ := bnd hf
                                              refine r_ldJ O ex197 dL_law_1347 ?_
                                              refine r_iload O 0 dL_law_1348 rfl ?_
                                              refine r_i2l O dL_law_1350 ?_
                                              refine r_lcmp O dL_law_1351 ?_
                                              by_cases hc : (lg_cmp x197 x193.toInt64) = 0
                                              · rw [if_pos hc] at hf
                                                refine r_if_eq_t (tgt := 1357) O dL_law_1352 (by decide) hc ?_
                                                refine r_goto (tgt := 1874) O dL_law_1357 (by decide) ?_
                                                refine r_iinc O 6 [(4, .int (l4 + 5)), (6, .int x193), (5, .int x191), (0, .retAddr 0), (1, .ref l1), (2, .ref l2), (3, .ref l3)] dL_law_1874 rfl rfl (by decide) rfl ?_
                                                refine r_goto (tgt := 23) O dL_law_1877 (by decide) ?_
                                                refine AW.widen (k' := kc + 15) (n' := nc + 836) (by omega) (by omega) (AW.sub [3, 4, 5, 6, 0] rfl ?_)
                                                exact ih _ _ (by omega) (by omega) _ _ hf
                                              · rw [if_neg hc] at hf
                                                refine r_if_eq_f (tgt := 1357) O dL_law_1352 (by decide) hc ?_
                                                refine r_iconst O (v := 0) dL_law_1355 (by decide) ?_
                                                cases hf
                                            · rw [if_neg hc] at hf
                                              refine r_if_ne_t (tgt := 1357) O dL_law_1342 (by decide) hc ?_
                                              refine r_goto (tgt := 1874) O dL_law_1357 (by decide) ?_
                                              refine r_iinc O 6 [(4, .int (l4 + 5)), (6, .int x193), (5, .int x191), (0, .retAddr 0), (1, .ref l1), (2, .ref l2), (3, .ref l3)] dL_law_1874 rfl rfl (by decide) rfl ?_
                                              refine r_goto (tgt := 23) O dL_law_1877 (by decide) ?_
                                              refine AW.widen (k' := kc + 15) (n' := nc + 836) (by omega) (by omega) (AW.sub [3, 4, 5, 6, 0] rfl ?_)
                                              exact ih _ _ (by omega) (by omega) _ _ hf
                                          · rw [if_neg hc] at hf
                                            refine r_icmp_eq_f (tgt := 1340) O dL_law_1335 (by decide) hc ?_
                                            refine r_iconst O (v := 0) dL_law_1338 (by decide) ?_
                                            cases hf
                                        · rw [if_neg hc] at hf
                                          have hn1316 := hc
                                          by_cases hc : x2 = 18
                                          · rw [if_pos hc] at hf
                                            refine r_table_in (off := 1321) (tgt := 1360) O dL_law_39 (by (rw [hc]; decide)) (by (rw [hc]; decide)) (by (rw [hc]; rfl)) (by decide) ?_
                                            refine r_aload_n O 1 dL_law_1360 rfl (Or.inl rfl) ?_
                                            refine r_aload_n O 3 dL_law_1361 rfl (Or.inl rfl) ?_
                                            obtain ⟨⟨x198, h199⟩, ex198, hf⟩ := bnd hf
                                            dsimp only at hf
                                            refine r_callSW (av := [.ref l1, .ref l3]) (st := []) O (c_L_undo ex198) mf_L_undo ml_L_165 ms_L_undo (by decide) (Nat.le_of_ble_eq_true rfl) ⟨by show (kc + 2) ≤ 601024; omega, by show (nc + 12) ≤ 7293034; omega⟩ dL_law_1362 ?_
                                            refine r_istore O [(5, .int x198), (0, .retAddr 0), (1, .ref l1), (2, .ref l2), (3, .ref l3), (4, .int l4)] dL_law_1365 (by decide) rfl ?_
                                            refine r_aload_n O 3 dL_law_1367 rfl (Or.inl rfl) ?_
                                            obtain ⟨⟨x200, h201⟩, ex200, hf⟩ := bnd hf
                                            dsimp only at hf
                                            refine r_callV (av := []) (st := []) O (c_X9_undo ex200) mf_X9_undo cf9 (kd_X9_undo ex200) ml_L_167 mi_X9_undo mv_X9_undo (by decide) (Nat.le_of_ble_eq_true rfl) ⟨by show (kc + 2) ≤ 601024; omega, by show (nc + 12) ≤ 7293034; omega⟩ dL_law_1368 ?_
                                            refine r_istore O [(6, .int x200), (5, .int x198), (0, .retAddr 0), (1, .ref l1), (2, .ref l2), (3, .ref l3), (4, .int l4)] dL_law_1371 (by decide) rfl ?_
                                            refine r_aload_n O 4 dL_law_1373 rfl (Or.inl rfl) ?_
                                            obtain ⟨x202, ex202, hf⟩ := bnd hf
                                            refine r_callV (av := []) (st := []) O (c_X9_thrown ex202) mf_X9_thrown cf9 (kd_X9_thrown ex202) ml_L_106 mi_X9_thrown mv_X9_thrown (by decide) (Nat.le_of_ble_eq_true rfl) ⟨by show (kc + 2) ≤ 601024; omega, by show (nc + 12) ≤ 7293034; omega⟩ dL_law_1374 ?_
                                            refine r_iload O 1 dL_law_1377 rfl ?_
                                            by_cases hc : x202 = x198
                                            · rw [if_pos hc] at hf
                                              refine r_icmp_eq_t (tgt := 1384) O dL_law_1379 (by decide) hc ?_
                                              refine r_iload O 1 dL_law_1384 rfl ?_
                                              by_cases hc : x198 = 0
                                              · rw [if_pos hc] at hf
                                                refine r_if_ne_f (tgt := 1401) O dL_law_1386 (by decide) hc ?_
                                                refine r_aload_n O 5 dL_law_1389 rfl (Or.inl rfl) ?_
                                                refine r_iconst O (v := 0) dL_law_1390 (by decide) ?_
                                                obtain ⟨x204, ex204, hf⟩ := bnd hf
                                                refine r_ldJ O ex204 dL_law_1391 ?_
                                                refine r_iload O 0 dL_law_1392 rfl ?_
                                                refine r_i2l O dL_law_1394 ?_
                                                refine r_lcmp O dL_law_1395 ?_
                                                by_cases hc : (lg_cmp x204 x200.toInt64) = 0
                                                · rw [if_pos hc] at hf
                                                  refine r_if_eq_t (tgt := 1401) O dL_law_1396 (by decide) hc ?_
                                                  refine r_goto (tgt := 1874) O dL_law_1401 (by decide) ?_
                                                  refine r_iinc O 6 [(4, .int (l4 + 5)), (6, .int x200), (5, .int x198), (0, .retAddr 0), (1, .ref l1), (2, .ref l2), (3, .ref l3)] dL_law_1874 rfl rfl (by decide) rfl ?_
                                                  refine r_goto (tgt := 23) O dL_law_1877 (by decide) ?_
                                                  refine AW.widen (k' := kc + 15) (n' := nc + 836) (by omega) (by omega) (AW.sub [3, 4, 5, 6, 0] rfl ?_)
                                                  exact ih _ _ (by omega) (by omega) _ _ hf
                                                · rw [if_neg hc] at hf
                                                  refine r_if_eq_f (tgt := 1401) O dL_law_1396 (by decide) hc ?_
                                                  refine r_iconst O (v := 0) dL_law_1399 (by decide) ?_
                                                  cases hf
                                              · rw [if_neg hc] at hf
                                                refine r_if_ne_t (tgt := 1401) O dL_law_1386 (by decide) hc ?_
                                                refine r_goto (tgt := 1874) O dL_law_1401 (by decide) ?_
                                                refine r_iinc O 6 [(4, .int (l4 + 5)), (6, .int x200), (5, .int x198), (0, .retAddr 0), (1, .ref l1), (2, .ref l2), (3, .ref l3)] dL_law_1874 rfl rfl (by decide) rfl ?_
                                                refine r_goto (tgt := 23) O dL_law_1877 (by decide) ?_
                                                refine AW.widen (k' := kc + 15) (n' := nc + 836) (by omega) (by omega) (AW.sub [3, 4, 5, 6, 0] rfl ?_)
                                                exact ih _ _ (by omega) (by omega) _ _ hf
                                            · rw [if_neg hc] at hf
                                              refine r_icmp_eq_f (tgt := 1384) O dL_law_1379 (by decide) hc ?_
                                              refine r_iconst O (v := 0) dL_law_1382 (by decide) ?_
                                              cases hf
                                          · rw [if_neg hc] at hf
                                            have hn1360 := hc
                                            by_cases hc : x2 = 19
                                            · rw [if_pos hc] at hf
                                              refine r_table_in (off := 1365) (tgt := 1404) O dL_law_39 (by (rw [hc]; decide)) (by (rw [hc]; decide)) (by (rw [hc]; rfl)) (by decide) ?_
                                              refine r_aload_n O 1 dL_law_1404 rfl (Or.inl rfl) ?_
                                              refine r_aload_n O 0 dL_law_1405 rfl (Or.inr ⟨_, rfl⟩) ?_
                                              refine r_iload O 4 dL_law_1406 rfl ?_
                                              refine r_iconst O (v := 1) dL_law_1408 (by decide) ?_
                                              refine r_iadd O dL_law_1409 ?_
                                              obtain ⟨x205, ex205, hf⟩ := bnd hf
                                              refine r_scI O hX ex205 dL_law_1410 ?_
                                              refine r_aload_n O 0 dL_law_1411 rfl (Or.inr ⟨_, rfl⟩) ?_
                                              refine r_iload O 4 dL_law_1412 rfl ?_
                                              refine r_iconst O (v := 2) dL_law_1414 (by decide) ?_
                                              refine r_iadd O dL_law_1415 ?_
                                              obtain ⟨x206, ex206, hf⟩ := bnd hf
                                              refine r_scI O hX ex206 dL_law_1416 ?_
                                              refine r_aload_n O 3 dL_law_1417 rfl (Or.inl rfl) ?_
                                              obtain ⟨⟨x207, h208⟩, ex207, hf⟩ := bnd hf
                                              dsimp only at hf
                                              refine r_callSW (av := [.ref l1, .int x205, .int x206, .ref l3]) (st := []) O (c_L_shadow ex207) mf_L_shadow ml_L_168 ms_L_shadow (by decide) (Nat.le_of_ble_eq_true rfl) ⟨by show (kc + 2) ≤ 601024; omega, by show (nc + 12) ≤ 7293034; omega⟩ dL_law_1418 ?_
                                              refine r_istore O [(5, .int x207), (0, .retAddr 0), (1, .ref l1), (2, .ref l2), (3, .ref l3), (4, .int l4)] dL_law_1421 (by decide) rfl ?_
                                              refine r_aload_n O 3 dL_law_1423 rfl (Or.inl rfl) ?_
                                              refine r_aload_n O 1 dL_law_1424 rfl (Or.inr ⟨_, rfl⟩) ?_
                                              refine r_iload O 5 dL_law_1425 rfl ?_
                                              refine r_iconst O (v := 1) dL_law_1427 (by decide) ?_
                                              refine r_iadd O dL_law_1428 ?_
                                              obtain ⟨x209, ex209, hf⟩ := bnd hf
                                              refine r_scI O hX ex209 dL_law_1429 ?_
                                              refine r_aload_n O 1 dL_law_1430 rfl (Or.inr ⟨_, rfl⟩) ?_
                                              refine r_iload O 5 dL_law_1431 rfl ?_
                                              refine r_iconst O (v := 2) dL_law_1433 (by decide) ?_
                                              refine r_iadd O dL_law_1434 ?_
                                              obtain ⟨x210, ex210, hf⟩ := bnd hf
                                              refine r_scI O hX ex210 dL_law_1435 ?_
                                              obtain ⟨⟨x211, h212⟩, ex211, hf⟩ := bnd hf
                                              dsimp only at hf
                                              refine r_callV (av := [.int x209, .int x210]) (st := []) O (c_X9_shadow ex211) mf_X9_shadow cf9 (kd_X9_shadow ex211) ml_L_170 mi_X9_shadow mv_X9_shadow (by decide) (Nat.le_of_ble_eq_true rfl) ⟨by show (kc + 2) ≤ 601024; omega, by show (nc + 12) ≤ 7293034; omega⟩ dL_law_1436 ?_
                                              refine r_lstore O [(6, .long x211), (5, .int x207), (0, .retAddr 0), (1, .ref l1), (2, .ref l2), (3, .ref l3), (4, .int l4)] dL_law_1439 (by decide) rfl ?_
                                              refine r_aload_n O 4 dL_law_1441 rfl (Or.inl rfl) ?_
                                              obtain ⟨x213, ex213, hf⟩ := bnd hf
                                              refine r_callV (av := []) (st := []) O (c_X9_thrown ex213) mf_X9_thrown cf9 (kd_X9_thrown ex213) ml_L_106 mi_X9_thrown mv_X9_thrown (by decide) (Nat.le_of_ble_eq_true rfl) ⟨by show (kc + 2) ≤ 601024; omega, by show (nc + 12) ≤ 7293034; omega⟩ dL_law_1442 ?_
                                              refine r_iload O 1 dL_law_1445 rfl ?_
                                              by_cases hc : x213 = x207
                                              · rw [if_pos hc] at hf
                                                refine r_icmp_eq_t (tgt := 1452) O dL_law_1447 (by decide) hc ?_
                                                refine r_iload O 1 dL_law_1452 rfl ?_
                                                by_cases hc : x207 = 0
                                                · rw [if_pos hc] at hf
                                                  refine r_if_ne_f (tgt := 1468) O dL_law_1454 (by decide) hc ?_
                                                  refine r_aload_n O 5 dL_law_1457 rfl (Or.inl rfl) ?_
                                                  refine r_iconst O (v := 0) dL_law_1458 (by decide) ?_
                                                  obtain ⟨x215, ex215, hf⟩ := bnd hf
                                                  refine r_ldJ O ex215 dL_law_1459 ?_
                                                  refine r_lload O 0 dL_law_1460 rfl ?_
                                                  refine r_lcmp O dL_law_1462 ?_
                                                  by_cases hc : (lg_cmp x215 x211) = 0
                                                  · rw [if_pos hc] at hf
                                                    refine r_if_eq_t (tgt := 1468) O dL_law_1463 (by decide) hc ?_
                                                    refine r_goto (tgt := 1874) O dL_law_1468 (by decide) ?_
                                                    refine r_iinc O 6 [(4, .int (l4 + 5)), (6, .long x211), (5, .int x207), (0, .retAddr 0), (1, .ref l1), (2, .ref l2), (3, .ref l3)] dL_law_1874 rfl rfl (by decide) rfl ?_
                                                    refine r_goto (tgt := 23) O dL_law_1877 (by decide) ?_
                                                    refine AW.widen (k' := kc + 15) (n' := nc + 836) (by omega) (by omega) (AW.sub [3, 4, 5, 6, 0] rfl ?_)
                                                    exact ih _ _ (by omega) (by omega) _ _ hf
                                                  · rw [if_neg hc] at hf
                                                    refine r_if_eq_f (tgt := 1468) O dL_law_1463 (by decide) hc ?_
                                                    refine r_iconst O (v := 0) dL_law_1466 (by decide) ?_
                                                    cases hf
                                                · rw [if_neg hc] at hf
                                                  refine r_if_ne_t (tgt := 1468) O dL_law_1454 (by decide) hc ?_
                                                  refine r_goto (tgt := 1874) O dL_law_1468 (by decide) ?_
                                                  refine r_iinc O 6 [(4, .int (l4 + 5)), (6, .long x211), (5, .int x207), (0, .retAddr 0), (1, .ref l1), (2, .ref l2), (3, .ref l3)] dL_law_1874 rfl rfl (by decide) rfl ?_
                                                  refine r_goto (tgt := 23) O dL_law_1877 (by decide) ?_
                                                  refine AW.widen (k' := kc + 15) (n' := nc + 836) (by omega) (by omega) (AW.sub [3, 4, 5, 6, 0] rfl ?_)
                                                  exact ih _ _ (by omega) (by omega) _ _ hf
                                              · rw [if_neg hc] at hf
                                                refine r_icmp_eq_f (tgt := 1452) O dL_law_1447 (by decide) hc ?_
                                                refine r_iconst O (v := 0) dL_law_1450 (by decide) ?_
                                                cases hf
                                            · rw [if_neg hc] at hf
                                              have hn1404 := hc
                                              by_cases hc : x2 = 20
                                              · rw [if_pos hc] at hf
                                                refine r_table_in (off := 1432) (tgt := 1471) O dL_law_39 (by (rw [hc]; decide)) (by (rw [hc]; decide)) (by (rw [hc]; rfl)) (by decide) ?_
                                                refine r_aload_n O 1 dL_law_1471 rfl (Or.inl rfl) ?_
                                                refine r_aload_n O 0 dL_law_1472 rfl (Or.inr ⟨_, rfl⟩) ?_
                                                refine r_iload O 4 dL_law_1473 rfl ?_
                                                refine r_iconst O (v := 1) dL_law_1475 (by decide) ?_
                                                refine r_iadd O dL_law_1476 ?_
                                                obtain ⟨x216, ex216, hf⟩ := bnd hf
                                                refine r_scI O hX ex216 dL_law_1477 ?_
                                                refine r_aload_n O 0 dL_law_1478 rfl (Or.inr ⟨_, rfl⟩) ?_
                                                refine r_iload O 4 dL_law_1479 rfl ?_
                                                refine r_iconst O (v := 2) dL_law_1481 (by decide) ?_
                                                refine r_iadd O dL_law_1482 ?_
                                                obtain ⟨x217, ex217, hf⟩ := bnd hf
                                                refine r_scI O hX ex217 dL_law_1483 ?_
                                                refine r_aload_n O 3 dL_law_1484 rfl (Or.inl rfl) ?_
                                                obtain ⟨⟨x218, h219⟩, ex218, hf⟩ := bnd hf
                                                dsimp only at hf
                                                refine r_callSW (av := [.ref l1, .int x216, .int x217, .ref l3]) (st := []) O (c_L_listShadow ex218) mf_L_listShadow ml_L_171 ms_L_listShadow (by decide) (Nat.le_of_ble_eq_true rfl) ⟨by show (kc + 2) ≤ 601024; omega, by show (nc + 12) ≤ 7293034; omega⟩ dL_law_1485 ?_
                                                refine r_istore O [(5, .int x218), (0, .retAddr 0), (1, .ref l1), (2, .ref l2), (3, .ref l3), (4, .int l4)] dL_law_1488 (by decide) rfl ?_
                                                refine r_aload_n O 3 dL_law_1490 rfl (Or.inl rfl) ?_
                                                refine r_aload_n O 1 dL_law_1491 rfl (Or.inr ⟨_, rfl⟩) ?_
                                                refine r_iload O 5 dL_law_1492 rfl ?_
                                                refine r_iconst O (v := 1) dL_law_1494 (by decide) ?_
                                                refine r_iadd O dL_law_1495 ?_
                                                obtain ⟨x220, ex220, hf⟩ := bnd hf
                                                refine r_scI O hX ex220 dL_law_1496 ?_
                                                refine r_aload_n O 1 dL_law_1497 rfl (Or.inr ⟨_, rfl⟩) ?_
                                                refine r_iload O 5 dL_law_1498 rfl ?_
                                                refine r_iconst O (v := 2) dL_law_1500 (by decide) ?_
                                                refine r_iadd O dL_law_1501 ?_
                                                obtain ⟨x221, ex221, hf⟩ := bnd hf
                                                refine r_scI O hX ex221 dL_law_1502 ?_
                                                obtain ⟨⟨x222, h223⟩, ex222, hf⟩ := bnd hf
                                                dsimp only at hf
                                                refine r_callV (av := [.int x220, .int x221]) (st := []) O (c_X9_listShadow ex222) mf_X9_listShadow cf9 (kd_X9_listShadow ex222) ml_L_173 mi_X9_listShadow mv_X9_listShadow (by decide) (Nat.le_of_ble_eq_true rfl) ⟨by show (kc + 2) ≤ 601024; omega, by show (nc + 12) ≤ 7293034; omega⟩ dL_law_1503 ?_
                                                refine r_lstore O [(6, .long x222), (5, .int x218), (0, .retAddr 0), (1, .ref l1), (2, .ref l2), (3, .ref l3), (4, .int l4)] dL_law_1506 (by decide) rfl ?_
                                                refine r_aload_n O 4 dL_law_1508 rfl (Or.inl rfl) ?_
                                                obtain ⟨x224, ex224, hf⟩ := bnd hf
                                                refine r_callV (av := []) (st := []) O (c_X9_thrown ex224) mf_X9_thrown cf9 (kd_X9_thrown ex224) ml_L_106 mi_X9_thrown mv_X9_thrown (by decide) (Nat.le_of_ble_eq_true rfl) ⟨by show (kc + 2) ≤ 601024; omega, by show (nc + 12) ≤ 7293034; omega⟩ dL_law_1509 ?_
                                                refine r_iload O 1 dL_law_1512 rfl ?_
                                                by_cases hc : x224 = x218
                                                · rw [if_pos hc] at hf
                                                  refine r_icmp_eq_t (tgt := 1519) O dL_law_1514 (by decide) hc ?_
                                                  refine r_iload O 1 dL_law_1519 rfl ?_
                                                  by_cases hc : x218 = 0
                                                  · rw [if_pos hc] at hf
                                                    refine r_if_ne_f (tgt := 1535) O dL_law_1521 (by decide) hc ?_
                                                    refine r_aload_n O 5 dL_law_1524 rfl (Or.inl rfl) ?_
                                                    refine r_iconst O (v := 0) dL_law_1525 (by decide) ?_
                                                    obtain ⟨x226, ex226, hf⟩ := bnd hf
                                                    refine r_ldJ O ex226 dL_law_1526 ?_
                                                    refine r_lload O 0 dL_law_1527 rfl ?_
                                                    refine r_lcmp O dL_law_1529 ?_
                                                    by_cases hc : (lg_cmp x226 x222) = 0
                                                    · rw [if_pos hc] at hf
                                                      refine r_if_eq_t (tgt := 1535) O dL_law_1530 (by decide) hc ?_
                                                      refine r_goto (tgt := 1874) O dL_law_1535 (by decide) ?_
                                                      refine r_iinc O 6 [(4, .int (l4 + 5)), (6, .long x222), (5, .int x218), (0, .retAddr 0), (1, .ref l1), (2, .ref l2), (3, .ref l3)] dL_law_1874 rfl rfl (by decide) rfl ?_
                                                      refine r_goto (tgt := 23) O dL_law_1877 (by decide) ?_
                                                      refine AW.widen (k' := kc + 15) (n' := nc + 836) (by omega) (by omega) (AW.sub [3, 4, 5, 6, 0] rfl ?_)
                                                      exact ih _ _ (by omega) (by omega) _ _ hf
                                                    · rw [if_neg hc] at hf
                                                      refine r_if_eq_f (tgt := 1535) O dL_law_1530 (by decide) hc ?_
                                                      refine r_iconst O (v := 0) dL_law_1533 (by decide) ?_
                                                      cases hf
                                                  · rw [if_neg hc] at hf
                                                    refine r_if_ne_t (tgt := 1535) O dL_law_1521 (by decide) hc ?_
                                                    refine r_goto (tgt := 1874) O dL_law_1535 (by decide) ?_
                                                    refine r_iinc O 6 [(4, .int (l4 + 5)), (6, .long x222), (5, .int x218), (0, .retAddr 0), (1, .ref l1), (2, .ref l2), (3, .ref l3)] dL_law_1874 rfl rfl (by decide) rfl ?_
                                                    refine r_goto (tgt := 23) O dL_law_1877 (by decide) ?_
                                                    refine AW.widen (k' := kc + 15) (n' := nc + 836) (by omega) (by omega) (AW.sub [3, 4, 5, 6, 0] rfl ?_)
                                                    exact ih _ _ (by omega) (by omega) _ _ hf
                                                · rw [if_neg hc] at hf
                                                  refine r_icmp_eq_f (tgt := 1519) O dL_law_1514 (by decide) hc ?_
                                                  refine r_iconst O (v := 0) dL_law_1517 (by decide) ?_
                                                  cases hf
                                              · rw [if_neg hc] at hf
                                                have hn1471 := hc
                                                by_cases hc : x2 = 21
                                                · rw [if_pos hc] at hf
                                                  refine r_table_in (off := 1499) (tgt := 1538) O dL_law_39 (by (rw [hc]; decide)) (by (rw [hc]; decide)) (by (rw [hc]; rfl)) (by decide) ?_
                                                  refine r_aload_n O 1 dL_law_1538 rfl (Or.inl rfl) ?_
                                                  refine r_aload_n O 0 dL_law_1539 rfl (Or.inr ⟨_, rfl⟩) ?_
                                                  refine r_iload O 4 dL_law_1540 rfl ?_
                                                  refine r_iconst O (v := 1) dL_law_1542 (by decide) ?_
                                                  refine r_iadd O dL_law_1543 ?_
                                                  obtain ⟨x227, ex227, hf⟩ := bnd hf
                                                  refine r_scI O hX ex227 dL_law_1544 ?_
                                                  refine r_aload_n O 0 dL_law_1545 rfl (Or.inr ⟨_, rfl⟩) ?_
                                                  refine r_iload O 4 dL_law_1546 rfl ?_
                                                  refine r_iconst O (v := 2) dL_law_1548 (by decide) ?_
                                                  refine r_iadd O dL_law_1549 ?_
                                                  obtain ⟨x228, ex228, hf⟩ := bnd hf
                                                  refine r_scI O hX ex228 dL_law_1550 ?_
                                                  refine r_aload_n O 3 dL_law_1551 rfl (Or.inl rfl) ?_
                                                  obtain ⟨⟨x229, h230⟩, ex229, hf⟩ := bnd hf
                                                  dsimp only at hf
                                                  refine r_callSW (av := [.ref l1, .int x227, .int x228, .ref l3]) (st := []) O (c_L_where ex229) mf_L_where ml_L_174 ms_L_where (by decide) (Nat.le_of_ble_eq_true rfl) ⟨by show (kc + 2) ≤ 601024; omega, by show (nc + 12) ≤ 7293034; omega⟩ dL_law_1552 ?_
                                                  refine r_istore O [(5, .int x229), (0, .retAddr 0), (1, .ref l1), (2, .ref l2), (3, .ref l3), (4, .int l4)] dL_law_1555 (by decide) rfl ?_
                                                  refine r_aload_n O 3 dL_law_1557 rfl (Or.inl rfl) ?_
                                                  refine r_aload_n O 1 dL_law_1558 rfl (Or.inr ⟨_, rfl⟩) ?_
                                                  refine r_iload O 5 dL_law_1559 rfl ?_
                                                  refine r_iconst O (v := 1) dL_law_1561 (by decide) ?_
                                                  refine r_iadd O dL_law_1562 ?_
                                                  obtain ⟨x231, ex231, hf⟩ := bnd hf
                                                  refine r_scI O hX ex231 dL_law_1563 ?_
                                                  refine r_aload_n O 1 dL_law_1564 rfl (Or.inr ⟨_, rfl⟩) ?_
                                                  refine r_iload O 5 dL_law_1565 rfl ?_
                                                  refine r_iconst O (v := 2) dL_law_1567 (by decide) ?_
                                                  refine r_iadd O dL_law_1568 ?_
                                                  obtain ⟨x232, ex232, hf⟩ := bnd hf
                                                  refine r_scI O hX ex232 dL_law_1569 ?_
                                                  obtain ⟨⟨x233, h234⟩, ex233, hf⟩ := bnd hf
                                                  dsimp only at hf
                                                  refine r_callV (av := [.int x231, .int x232]) (st := []) O (c_X9_where ex233) mf_X9_where cf9 (kd_X9_where ex233) ml_L_176 mi_X9_where mv_X9_where (by decide) (Nat.le_of_ble_eq_true rfl) ⟨by show (kc + 2) ≤ 601024; omega, by show (nc + 12) ≤ 7293034; omega⟩ dL_law_1570 ?_
                                                  refine r_istore O [(6, .int x233), (5, .int x229), (0, .retAddr 0), (1, .ref l1), (2, .ref l2), (3, .ref l3), (4, .int l4)] dL_law_1573 (by decide) rfl ?_
                                                  refine r_aload_n O 4 dL_law_1575 rfl (Or.inl rfl) ?_
                                                  obtain ⟨x235, ex235, hf⟩ := bnd hf
                                                  refine r_callV (av := []) (st := []) O (c_X9_thrown ex235) mf_X9_thrown cf9 (kd_X9_thrown ex235) ml_L_106 mi_X9_thrown mv_X9_thrown (by decide) (Nat.le_of_ble_eq_true rfl) ⟨by show (kc + 2) ≤ 601024; omega, by show (nc + 12) ≤ 7293034; omega⟩ dL_law_1576 ?_
                                                  refine r_iload O 1 dL_law_1579 rfl ?_
                                                  by_cases hc : x235 = x229
                                                  · rw [if_pos hc] at hf
                                                    refine r_icmp_eq_t (tgt := 1586) O dL_law_1581 (by decide) hc ?_
                                                    refine r_iload O 1 dL_law_1586 rfl ?_
                                                    by_cases hc : x229 = 0
                                                    · rw [if_pos hc] at hf
                                                      refine r_if_ne_f (tgt := 1603) O dL_law_1588 (by decide) hc ?_
                                                      refine r_aload_n O 5 dL_law_1591 rfl (Or.inl rfl) ?_
                                                      refine r_iconst O (v := 0) dL_law_1592 (by decide) ?_
                                                      obtain ⟨x237, ex237, hf⟩ := bnd hf
                                                      refine r_ldJ O ex237 dL_law_1593 ?_
                                                      refine r_iload O 0 dL_law_1594 rfl ?_
                                                      refine r_i2l O dL_law_1596 ?_
                                                      refine r_lcmp O dL_law_1597 ?_
                                                      by_cases hc : (lg_cmp x237 x233.toInt64) = 0
                                                      · rw [if_pos hc] at hf
                                                        refine r_if_eq_t (tgt := 1603) O dL_law_1598 (by decide) hc ?_
                                                        refine r_goto (tgt := 1874) O dL_law_1603 (by decide) ?_
                                                        refine r_iinc O 6 [(4, .int (l4 + 5)), (6, .int x233), (5, .int x229), (0, .retAddr 0), (1, .ref l1), (2, .ref l2), (3, .ref l3)] dL_law_1874 rfl rfl (by decide) rfl ?_
                                                        refine r_goto (tgt := 23) O dL_law_1877 (by decide) ?_
                                                        refine AW.widen (k' := kc + 15) (n' := nc + 836) (by omega) (by omega) (AW.sub [3, 4, 5, 6, 0] rfl ?_)
                                                        exact ih _ _ (by omega) (by omega) _ _ hf
                                                      · rw [if_neg hc] at hf
                                                        refine r_if_eq_f (tgt := 1603) O dL_law_1598 (by decide) hc ?_
                                                        refine r_iconst O (v := 0) dL_law_1601 (by decide) ?_
                                                        cases hf
                                                    · rw [if_neg hc] at hf
                                                      refine r_if_ne_t (tgt := 1603) O dL_law_1588 (by decide) hc ?_
                                                      refine r_goto (tgt := 1874) O dL_law_1603 (by decide) ?_
                                                      refine r_iinc O 6 [(4, .int (l4 + 5)), (6, .int x233), (5, .int x229), (0, .retAddr 0), (1, .ref l1), (2, .ref l2), (3, .ref l3)] dL_law_1874 rfl rfl (by decide) rfl ?_
                                                      refine r_goto (tgt := 23) O dL_law_1877 (by decide) ?_
                                                      refine AW.widen (k' := kc + 15) (n' := nc + 836) (by omega) (by omega) (AW.sub [3, 4, 5, 6, 0] rfl ?_)
                                                      exact ih _ _ (by omega) (by omega) _ _ hf
                                                  · rw [if_neg hc] at hf
                                                    refine r_icmp_eq_f (tgt := 1586) O dL_law_1581 (by decide) hc ?_
                                                    refine r_iconst O (v := 0) dL_law_1584 (by decide) ?_
                                                    cases hf
                                                · rw [if_neg hc] at hf
                                                  have hn1538 := hc
                                                  by_cases hc : x2 = 22
                                                  · rw [if_pos hc] at hf
                                                    refine r_table_in (off := 1567) (tgt := 1606) O dL_law_39 (by (rw [hc]; decide)) (by (rw [hc]; decide)) (by (rw [hc]; rfl)) (by decide) ?_
                                                    refine r_aload_n O 1 dL_law_1606 rfl (Or.inl rfl) ?_
                                                    refine r_aload_n O 0 dL_law_1607 rfl (Or.inr ⟨_, rfl⟩) ?_
                                                    refine r_iload O 4 dL_law_1608 rfl ?_
                                                    refine r_iconst O (v := 1) dL_law_1610 (by decide) ?_
                                                    refine r_iadd O dL_law_1611 ?_
                                                    obtain ⟨x238, ex238, hf⟩ := bnd hf
                                                    refine r_scI O hX ex238 dL_law_1612 ?_
                                                    refine r_aload_n O 0 dL_law_1613 rfl (Or.inr ⟨_, rfl⟩) ?_
                                                    refine r_iload O 4 dL_law_1614 rfl ?_
                                                    refine r_iconst O (v := 2) dL_law_1616 (by decide) ?_
                                                    refine r_iadd O dL_law_1617 ?_
                                                    obtain ⟨x239, ex239, hf⟩ := bnd hf
                                                    refine r_scI O hX ex239 dL_law_1618 ?_
                                                    refine r_aload_n O 3 dL_law_1619 rfl (Or.inl rfl) ?_
                                                    obtain ⟨⟨x240, h241⟩, ex240, hf⟩ := bnd hf
                                                    dsimp only at hf
                                                    refine r_callSW (av := [.ref l1, .int x238, .int x239, .ref l3]) (st := []) O (c_L_at ex240) mf_L_at ml_L_177 ms_L_at (by decide) (Nat.le_of_ble_eq_true rfl) ⟨by show (kc + 1) ≤ 601024; omega, by show (nc + 6) ≤ 7293034; omega⟩ dL_law_1620 ?_
                                                    refine r_istore O [(5, .int x240), (0, .retAddr 0), (1, .ref l1), (2, .ref l2), (3, .ref l3), (4, .int l4)] dL_law_1623 (by decide) rfl ?_
                                                    refine r_aload_n O 3 dL_law_1625 rfl (Or.inl rfl) ?_
                                                    refine r_aload_n O 1 dL_law_1626 rfl (Or.inr ⟨_, rfl⟩) ?_
                                                    refine r_iload O 5 dL_law_1627 rfl ?_
                                                    refine r_iconst O (v := 1) dL_law_1629 (by decide) ?_
                                                    refine r_iadd O dL_law_1630 ?_
                                                    obtain ⟨x242, ex242, hf⟩ := bnd hf
                                                    refine r_scI O hX ex242 dL_law_1631 ?_
                                                    refine r_aload_n O 1 dL_law_1632 rfl (Or.inr ⟨_, rfl⟩) ?_
                                                    refine r_iload O 5 dL_law_1633 rfl ?_
                                                    refine r_iconst O (v := 2) dL_law_1635 (by decide) ?_
                                                    refine r_iadd O dL_law_1636 ?_
                                                    obtain ⟨x243, ex243, hf⟩ := bnd hf
                                                    refine r_scI O hX ex243 dL_law_1637 ?_
                                                    obtain ⟨⟨x244, h245⟩, ex244, hf⟩ := bnd hf
                                                    dsimp only at hf
                                                    refine r_callV (av := [.int x242, .int x243]) (st := []) O (c_X9_at ex244) mf_X9_at cf9 (kd_X9_at ex244) ml_L_179 mi_X9_at mv_X9_at (by decide) (Nat.le_of_ble_eq_true rfl) ⟨by show (kc + 1) ≤ 601024; omega, by show (nc + 6) ≤ 7293034; omega⟩ dL_law_1638 ?_
                                                    refine r_istore O [(6, .int x244), (5, .int x240), (0, .retAddr 0), (1, .ref l1), (2, .ref l2), (3, .ref l3), (4, .int l4)] dL_law_1641 (by decide) rfl ?_
                                                    refine r_aload_n O 4 dL_law_1643 rfl (Or.inl rfl) ?_
                                                    obtain ⟨x246, ex246, hf⟩ := bnd hf
                                                    refine r_callV (av := []) (st := []) O (c_X9_thrown ex246) mf_X9_thrown cf9 (kd_X9_thrown ex246) ml_L_106 mi_X9_thrown mv_X9_thrown (by decide) (Nat.le_of_ble_eq_true rfl) ⟨by show (kc + 1) ≤ 601024; omega, by show (nc + 6) ≤ 7293034; omega⟩ dL_law_1644 ?_
                                                    refine r_iload O 1 dL_law_1647 rfl ?_
                                                    by_cases hc : x246 = x240
                                                    · rw [if_pos hc] at hf
                                                      refine r_icmp_eq_t (tgt := 1654) O dL_law_1649 (by decide) hc ?_
                                                      refine r_iload O 1 dL_law_1654 rfl ?_
                                                      by_cases hc : x240 = 0
                                                      · rw [if_pos hc] at hf
                                                        refine r_if_ne_f (tgt := 1671) O dL_law_1656 (by decide) hc ?_
                                                        refine r_aload_n O 5 dL_law_1659 rfl (Or.inl rfl) ?_
                                                        refine r_iconst O (v := 0) dL_law_1660 (by decide) ?_
                                                        obtain ⟨x248, ex248, hf⟩ := bnd hf
                                                        refine r_ldJ O ex248 dL_law_1661 ?_
                                                        refine r_iload O 0 dL_law_1662 rfl ?_
                                                        refine r_i2l O dL_law_1664 ?_
                                                        refine r_lcmp O dL_law_1665 ?_
                                                        by_cases hc : (lg_cmp x248 x244.toInt64) = 0
                                                        · rw [if_pos hc] at hf
                                                          refine r_if_eq_t (tgt := 1671) O dL_law_1666 (by decide) hc ?_
                                                          refine r_goto (tgt := 1874) O dL_law_1671 (by decide) ?_
                                                          refine r_iinc O 6 [(4, .int (l4 + 5)), (6, .int x244), (5, .int x240), (0, .retAddr 0), (1, .ref l1), (2, .ref l2), (3, .ref l3)] dL_law_1874 rfl rfl (by decide) rfl ?_
                                                          refine r_goto (tgt := 23) O dL_law_1877 (by decide) ?_
                                                          refine AW.widen (k' := kc + 15) (n' := nc + 836) (by omega) (by omega) (AW.sub [3, 4, 5, 6, 0] rfl ?_)
                                                          exact ih _ _ (by omega) (by omega) _ _ hf
                                                        · rw [if_neg hc] at hf
                                                          refine r_if_eq_f (tgt := 1671) O dL_law_1666 (by decide) hc ?_
                                                          refine r_iconst O (v := 0) dL_law_1669 (by decide) ?_
                                                          cases hf
                                                      · rw [if_neg hc] at hf
                                                        refine r_if_ne_t (tgt := 1671) O dL_law_1656 (by decide) hc ?_
                                                        refine r_goto (tgt := 1874) O dL_law_1671 (by decide) ?_
                                                        refine r_iinc O 6 [(4, .int (l4 + 5)), (6, .int x244), (5, .int x240), (0, .retAddr 0), (1, .ref l1), (2, .ref l2), (3, .ref l3)] dL_law_1874 rfl rfl (by decide) rfl ?_
                                                        refine r_goto (tgt := 23) O dL_law_1877 (by decide) ?_
                                                        refine AW.widen (k' := kc + 15) (n' := nc + 836) (by omega) (by omega) (AW.sub [3, 4, 5, 6, 0] rfl ?_)
                                                        exact ih _ _ (by omega) (by omega) _ _ hf
                                                    · rw [if_neg hc] at hf
                                                      refine r_icmp_eq_f (tgt := 1654) O dL_law_1649 (by decide) hc ?_
                                                      refine r_iconst O (v := 0) dL_law_1652 (by decide) ?_
                                                      cases hf
                                                  · rw [if_neg hc] at hf
                                                    have hn1606 := hc
                                                    by_cases hc : x2 = 23
                                                    · rw [if_pos hc] at hf
                                                      refine r_table_in (off := 1635) (tgt := 1674) O dL_law_39 (by (rw [hc]; decide)) (by (rw [hc]; decide)) (by (rw [hc]; rfl)) (by decide) ?_
                                                      refine r_aload_n O 1 dL_law_1674 rfl (Or.inl rfl) ?_
                                                      refine r_aload_n O 0 dL_law_1675 rfl (Or.inr ⟨_, rfl⟩) ?_
                                                      refine r_iload O 4 dL_law_1676 rfl ?_
                                                      refine r_iconst O (v := 1) dL_law_1678 (by decide) ?_
                                                      refine r_iadd O dL_law_1679 ?_
                                                      obtain ⟨x249, ex249, hf⟩ := bnd hf
                                                      refine r_scI O hX ex249 dL_law_1680 ?_
                                                      obtain ⟨x250, ex250, hf⟩ := bnd hf
                                                      refine r_callV (av := [.int x249]) (st := []) O (c_X8_worked ex250) mf_X8_worked cf8 (kd_X8_worked ex250) ml_L_180 mi_X8_worked mv_X8_worked (by decide) (Nat.le_of_ble_eq_true rfl) ⟨by show kc ≤ 601024; omega, by show nc ≤ 7293034; omega⟩ dL_law_1681 ?_
                                                      refine r_aload_n O 2 dL_law_1684 rfl (Or.inl rfl) ?_
                                                      refine r_aload_n O 0 dL_law_1685 rfl (Or.inr ⟨_, rfl⟩) ?_
                                                      refine r_iload O 4 dL_law_1686 rfl ?_
                                                      refine r_iconst O (v := 1) dL_law_1688 (by decide) ?_
                                                      refine r_iadd O dL_law_1689 ?_
                                                      obtain ⟨x252, ex252, hf⟩ := bnd hf
                                                      refine r_scI O hX ex252 dL_law_1690 ?_
                                                      obtain ⟨⟨x253, h254⟩, ex253, hf⟩ := bnd hf
                                                      dsimp only at hf
                                                      refine r_callV (av := [.int x252]) (st := [.int x250]) O (c_X9_worked ex253) mf_X9_worked cf9 (kd_X9_worked ex253) ml_L_183 mi_X9_worked mv_X9_worked (by decide) (Nat.le_of_ble_eq_true rfl) ⟨by show kc ≤ 601024; omega, by show nc ≤ 7293034; omega⟩ dL_law_1691 ?_
                                                      by_cases hc : x250 = x253
                                                      · rw [if_pos hc] at hf
                                                        refine r_icmp_eq_t (tgt := 1874) O dL_law_1694 (by decide) hc ?_
                                                        refine r_iinc O 4 [(4, .int (l4 + 5)), (0, .retAddr 0), (1, .ref l1), (2, .ref l2), (3, .ref l3)] dL_law_1874 rfl rfl (by decide) rfl ?_
                                                        refine r_goto (tgt := 23) O dL_law_1877 (by decide) ?_
                                                        refine AW.widen (k' := kc + 15) (n' := nc + 836) (by omega) (by omega) (AW.sub [1, 2, 3, 4, 0] rfl ?_)
                                                        exact ih _ _ (by omega) (by omega) _ _ hf
                                                      · rw [if_neg hc] at hf
                                                        refine r_icmp_eq_f (tgt := 1874) O dL_law_1694 (by decide) hc ?_
                                                        refine r_iconst O (v := 0) dL_law_1697 (by decide) ?_
                                                        cases hf
                                                    · rw [if_neg hc] at hf
                                                      have hn1674 := hc
                                                      by_cases hc : x2 = 24
                                                      · rw [if_pos hc] at hf
                                                        refine r_table_in (off := 1660) (tgt := 1699) O dL_law_39 (by (rw [hc]; decide)) (by (rw [hc]; decide)) (by (rw [hc]; rfl)) (by decide) ?_
                                                        refine r_aload_n O 1 dL_law_1699 rfl (Or.inl rfl) ?_
                                                        refine r_aload_n O 0 dL_law_1700 rfl (Or.inr ⟨_, rfl⟩) ?_
                                                        refine r_iload O 4 dL_law_1701 rfl ?_
                                                        refine r_iconst O (v := 1) dL_law_1703 (by decide) ?_
                                                        refine r_iadd O dL_law_1704 ?_
                                                        obtain ⟨x255, ex255, hf⟩ := bnd hf
                                                        refine r_scI O hX ex255 dL_law_1705 ?_
                                                        obtain ⟨x256, ex256, hf⟩ := bnd hf
                                                        refine r_callV (av := [.int x255]) (st := []) O (c_X8_order ex256) mf_X8_order cf8 (kd_X8_order ex256) ml_L_184 mi_X8_order mv_X8_order (by decide) (Nat.le_of_ble_eq_true rfl) ⟨by show kc ≤ 601024; omega, by show nc ≤ 7293034; omega⟩ dL_law_1706 ?_
                                                        refine r_aload_n O 2 dL_law_1709 rfl (Or.inl rfl) ?_
                                                        refine r_aload_n O 0 dL_law_1710 rfl (Or.inr ⟨_, rfl⟩) ?_
                                                        refine r_iload O 4 dL_law_1711 rfl ?_
                                                        refine r_iconst O (v := 1) dL_law_1713 (by decide) ?_
                                                        refine r_iadd O dL_law_1714 ?_
                                                        obtain ⟨x258, ex258, hf⟩ := bnd hf
                                                        refine r_scI O hX ex258 dL_law_1715 ?_
                                                        obtain ⟨⟨x259, h260⟩, ex259, hf⟩ := bnd hf
                                                        dsimp only at hf
                                                        refine r_callV (av := [.int x258]) (st := [.int x256]) O (c_X9_order ex259) mf_X9_order cf9 (kd_X9_order ex259) ml_L_187 mi_X9_order mv_X9_order (by decide) (Nat.le_of_ble_eq_true rfl) ⟨by show kc ≤ 601024; omega, by show nc ≤ 7293034; omega⟩ dL_law_1716 ?_
                                                        by_cases hc : x256 = x259
                                                        · rw [if_pos hc] at hf
                                                          refine r_icmp_eq_t (tgt := 1874) O dL_law_1719 (by decide) hc ?_
                                                          refine r_iinc O 4 [(4, .int (l4 + 5)), (0, .retAddr 0), (1, .ref l1), (2, .ref l2), (3, .ref l3)] dL_law_1874 rfl rfl (by decide) rfl ?_
                                                          refine r_goto (tgt := 23) O dL_law_1877 (by decide) ?_
                                                          refine AW.widen (k' := kc + 15) (n' := nc + 836) (by omega) (by omega) (AW.sub [1, 2, 3, 4, 0] rfl ?_)
                                                          exact ih _ _ (by omega) (by omega) _ _ hf
                                                        · rw [if_neg hc] at hf
                                                          refine r_icmp_eq_f (tgt := 1874) O dL_law_1719 (by decide) hc ?_
                                                          refine r_iconst O (v := 0) dL_law_1722 (by decide) ?_
                                                          cases hf
                                                      · rw [if_neg hc] at hf
                                                        have hn1699 := hc
                                                        by_cases hc : x2 = 25
                                                        · rw [if_pos hc] at hf
                                                          refine r_table_in (off := 1685) (tgt := 1724) O dL_law_39 (by (rw [hc]; decide)) (by (rw [hc]; decide)) (by (rw [hc]; rfl)) (by decide) ?_
                                                          refine r_aload_n O 1 dL_law_1724 rfl (Or.inl rfl) ?_
                                                          refine r_aload_n O 0 dL_law_1725 rfl (Or.inr ⟨_, rfl⟩) ?_
                                                          refine r_iload O 4 dL_law_1726 rfl ?_
                                                          refine r_iconst O (v := 1) dL_law_1728 (by decide) ?_
                                                          refine r_iadd O dL_law_1729 ?_
                                                          obtain ⟨x261, ex261, hf⟩ := bnd hf
                                                          refine r_scI O hX ex261 dL_law_1730 ?_
                                                          obtain ⟨x262, ex262, hf⟩ := bnd hf
                                                          refine r_callV (av := [.int x261]) (st := []) O (c_X8_ring ex262) mf_X8_ring cf8 (kd_X8_ring ex262) ml_L_188 mi_X8_ring mv_X8_ring (by decide) (Nat.le_of_ble_eq_true rfl) ⟨by show kc ≤ 601024; omega, by show nc ≤ 7293034; omega⟩ dL_law_1731 ?_
                                                          refine r_aload_n O 2 dL_law_1734 rfl (Or.inl rfl) ?_
                                                          refine r_aload_n O 0 dL_law_1735 rfl (Or.inr ⟨_, rfl⟩) ?_
                                                          refine r_iload O 4 dL_law_1736 rfl ?_
                                                          refine r_iconst O (v := 1) dL_law_1738 (by decide) ?_
                                                          refine r_iadd O dL_law_1739 ?_
                                                          obtain ⟨x264, ex264, hf⟩ := bnd hf
                                                          refine r_scI O hX ex264 dL_law_1740 ?_
                                                          obtain ⟨⟨x265, h266⟩, ex265, hf⟩ := bnd hf
                                                          dsimp only at hf
                                                          refine r_callV (av := [.int x264]) (st := [.int x262]) O (c_X9_ring ex265) mf_X9_ring cf9 (kd_X9_ring ex265) ml_L_191 mi_X9_ring mv_X9_ring (by decide) (Nat.le_of_ble_eq_true rfl) ⟨by show kc ≤ 601024; omega, by show nc ≤ 7293034; omega⟩ dL_law_1741 ?_
                                                          by_cases hc : x262 = x265
                                                          · rw [if_pos hc] at hf
                                                            refine r_icmp_eq_t (tgt := 1874) O dL_law_1744 (by decide) hc ?_
                                                            refine r_iinc O 4 [(4, .int (l4 + 5)), (0, .retAddr 0), (1, .ref l1), (2, .ref l2), (3, .ref l3)] dL_law_1874 rfl rfl (by decide) rfl ?_
                                                            refine r_goto (tgt := 23) O dL_law_1877 (by decide) ?_
                                                            refine AW.widen (k' := kc + 15) (n' := nc + 836) (by omega) (by omega) (AW.sub [1, 2, 3, 4, 0] rfl ?_)
                                                            exact ih _ _ (by omega) (by omega) _ _ hf
                                                          · rw [if_neg hc] at hf
                                                            refine r_icmp_eq_f (tgt := 1874) O dL_law_1744 (by decide) hc ?_
                                                            refine r_iconst O (v := 0) dL_law_1747 (by decide) ?_
                                                            cases hf
                                                        · rw [if_neg hc] at hf
                                                          have hn1724 := hc
                                                          by_cases hc : x2 = 26
                                                          · rw [if_pos hc] at hf
                                                            refine r_table_in (off := 1710) (tgt := 1749) O dL_law_39 (by (rw [hc]; decide)) (by (rw [hc]; decide)) (by (rw [hc]; rfl)) (by decide) ?_
                                                            refine r_aload_n O 1 dL_law_1749 rfl (Or.inl rfl) ?_
                                                            refine r_aload_n O 0 dL_law_1750 rfl (Or.inr ⟨_, rfl⟩) ?_
                                                            refine r_iload O 4 dL_law_1751 rfl ?_
                                                            refine r_iconst O (v := 1) dL_law_1753 (by decide) ?_
                                                            refine r_iadd O dL_law_1754 ?_
                                                            obtain ⟨x267, ex267, hf⟩ := bnd hf
                                                            refine r_scI O hX ex267 dL_law_1755 ?_
                                                            refine r_aload_n O 3 dL_law_1756 rfl (Or.inl rfl) ?_
                                                            obtain ⟨⟨x268, h269⟩, ex268, hf⟩ := bnd hf
                                                            dsimp only at hf
                                                            refine r_callSW (av := [.ref l1, .int x267, .ref l3]) (st := []) O (c_L_cause ex268) mf_L_cause ml_L_192 ms_L_cause (by decide) (Nat.le_of_ble_eq_true rfl) ⟨by show (kc + 1) ≤ 601024; omega, by show (nc + 6) ≤ 7293034; omega⟩ dL_law_1757 ?_
                                                            refine r_istore O [(5, .int x268), (0, .retAddr 0), (1, .ref l1), (2, .ref l2), (3, .ref l3), (4, .int l4)] dL_law_1760 (by decide) rfl ?_
                                                            refine r_aload_n O 3 dL_law_1762 rfl (Or.inl rfl) ?_
                                                            refine r_aload_n O 1 dL_law_1763 rfl (Or.inr ⟨_, rfl⟩) ?_
                                                            refine r_iload O 5 dL_law_1764 rfl ?_
                                                            refine r_iconst O (v := 1) dL_law_1766 (by decide) ?_
                                                            refine r_iadd O dL_law_1767 ?_
                                                            obtain ⟨x270, ex270, hf⟩ := bnd hf
                                                            refine r_scI O hX ex270 dL_law_1768 ?_
                                                            obtain ⟨⟨x271, h272⟩, ex271, hf⟩ := bnd hf
                                                            dsimp only at hf
                                                            refine r_callV (av := [.int x270]) (st := []) O (c_X9_cause ex271) mf_X9_cause cf9 (kd_X9_cause ex271) ml_L_194 mi_X9_cause mv_X9_cause (by decide) (Nat.le_of_ble_eq_true rfl) ⟨by show (kc + 1) ≤ 601024; omega, by show (nc + 6) ≤ 7293034; omega⟩ dL_law_1769 ?_
                                                            refine r_istore O [(6, .int x271), (5, .int x268), (0, .retAddr 0), (1, .ref l1), (2, .ref l2), (3, .ref l3), (4, .int l4)] dL_law_1772 (by decide) rfl ?_
                                                            refine r_aload_n O 4 dL_law_1774 rfl (Or.inl rfl) ?_
                                                            obtain ⟨x273, ex273, hf⟩ := bnd hf
                                                            refine r_callV (av := []) (st := []) O (c_X9_thrown ex273) mf_X9_thrown cf9 (kd_X9_thrown ex273) ml_L_106 mi_X9_thrown mv_X9_thrown (by decide) (Nat.le_of_ble_eq_true rfl) ⟨by show (kc + 1) ≤ 601024; omega, by show (nc + 6) ≤ 7293034; omega⟩ dL_law_1775 ?_
                                                            refine r_iload O 1 dL_law_1778 rfl ?_
                                                            by_cases hc : x273 = x268
                                                            · rw [if_pos hc] at hf
                                                              refine r_icmp_eq_t (tgt := 1785) O dL_law_1780 (by decide) hc ?_
                                                              refine r_iload O 1 dL_law_1785 rfl ?_
                                                              by_cases hc : x268 = 0
                                                              · rw [if_pos hc] at hf
                                                                refine r_if_ne_f (tgt := 1802) O dL_law_1787 (by decide) hc ?_
                                                                refine r_aload_n O 5 dL_law_1790 rfl (Or.inl rfl) ?_
                                                                refine r_iconst O (v := 0) dL_law_1791 (by decide) ?_
                                                                obtain ⟨x275, ex275, hf⟩ := bnd hf
                                                                refine r_ldJ O ex275 dL_law_1792 ?_
                                                                refine r_iload O 0 dL_law_1793 rfl ?_
                                                                refine r_i2l O dL_law_1795 ?_
                                                                refine r_lcmp O dL_law_1796 ?_
                                                                by_cases hc : (lg_cmp x275 x271.toInt64) = 0
                                                                · rw [if_pos hc] at hf
                                                                  refine r_if_eq_t (tgt := 1802) O dL_law_1797 (by decide) hc ?_
                                                                  refine r_goto (tgt := 1874) O dL_law_1802 (by decide) ?_
                                                                  refine r_iinc O 6 [(4, .int (l4 + 5)), (6, .int x271), (5, .int x268), (0, .retAddr 0), (1, .ref l1), (2, .ref l2), (3, .ref l3)] dL_law_1874 rfl rfl (by decide) rfl ?_
                                                                  refine r_goto (tgt := 23) O dL_law_1877 (by decide) ?_
                                                                  refine AW.widen (k' := kc + 15) (n' := nc + 836) (by omega) (by omega) (AW.sub [3, 4, 5, 6, 0] rfl ?_)
                                                                  exact ih _ _ (by omega) (by omega) _ _ hf
                                                                · rw [if_neg hc] at hf
                                                                  refine r_if_eq_f (tgt := 1802) O dL_law_1797 (by decide) hc ?_
                                                                  refine r_iconst O (v := 0) dL_law_1800 (by decide) ?_
                                                                  cases hf
                                                              · rw [if_neg hc] at hf
                                                                refine r_if_ne_t (tgt := 1802) O dL_law_1787 (by decide) hc ?_
                                                                refine r_goto (tgt := 1874) O dL_law_1802 (by decide) ?_
                                                                refine r_iinc O 6 [(4, .int (l4 + 5)), (6, .int x271), (5, .int x268), (0, .retAddr 0), (1, .ref l1), (2, .ref l2), (3, .ref l3)] dL_law_1874 rfl rfl (by decide) rfl ?_
                                                                refine r_goto (tgt := 23) O dL_law_1877 (by decide) ?_
                                                                refine AW.widen (k' := kc + 15) (n' := nc + 836) (by omega) (by omega) (AW.sub [3, 4, 5, 6, 0] rfl ?_)
                                                                exact ih _ _ (by omega) (by omega) _ _ hf
                                                            · rw [if_neg hc] at hf
                                                              refine r_icmp_eq_f (tgt := 1785) O dL_law_1780 (by decide) hc ?_
                                                              refine r_iconst O (v := 0) dL_law_1783 (by decide) ?_
                                                              cases hf
                                                          · rw [if_neg hc] at hf
                                                            have hn1749 := hc
                                                            by_cases hc : x2 = 27
                                                            · rw [if_pos hc] at hf
                                                              refine r_table_in (off := 1766) (tgt := 1805) O dL_law_39 (by (rw [hc]; decide)) (by (rw [hc]; decide)) (by (rw [hc]; rfl)) (by decide) ?_
                                                              refine r_aload_n O 1 dL_law_1805 rfl (Or.inl rfl) ?_
                                                              refine r_aload_n O 0 dL_law_1806 rfl (Or.inr ⟨_, rfl⟩) ?_
                                                              refine r_iload O 4 dL_law_1807 rfl ?_
                                                              refine r_iconst O (v := 1) dL_law_1809 (by decide) ?_
                                                              refine r_iadd O dL_law_1810 ?_
                                                              obtain ⟨x276, ex276, hf⟩ := bnd hf
                                                              refine r_scI O hX ex276 dL_law_1811 ?_
                                                              refine r_aload_n O 3 dL_law_1812 rfl (Or.inl rfl) ?_
                                                              obtain ⟨⟨x277, h278⟩, ex277, hf⟩ := bnd hf
                                                              dsimp only at hf
                                                              refine r_callSW (av := [.ref l1, .int x276, .ref l3]) (st := []) O (c_L_count ex277) mf_L_count ml_L_195 ms_L_count (by decide) (Nat.le_of_ble_eq_true rfl) ⟨by show (kc + 1) ≤ 601024; omega, by show (nc + 6) ≤ 7293034; omega⟩ dL_law_1813 ?_
                                                              refine r_istore O [(5, .int x277), (0, .retAddr 0), (1, .ref l1), (2, .ref l2), (3, .ref l3), (4, .int l4)] dL_law_1816 (by decide) rfl ?_
                                                              refine r_aload_n O 3 dL_law_1818 rfl (Or.inl rfl) ?_
                                                              refine r_aload_n O 1 dL_law_1819 rfl (Or.inr ⟨_, rfl⟩) ?_
                                                              refine r_iload O 5 dL_law_1820 rfl ?_
                                                              refine r_iconst O (v := 1) dL_law_1822 (by decide) ?_
                                                              refine r_iadd O dL_law_1823 ?_
                                                              obtain ⟨x279, ex279, hf⟩ := bnd hf
                                                              refine r_scI O hX ex279 dL_law_1824 ?_
                                                              obtain ⟨⟨x280, h281⟩, ex280, hf⟩ := bnd hf
                                                              dsimp only at hf
                                                              refine r_callV (av := [.int x279]) (st := []) O (c_X9_count ex280) mf_X9_count cf9 (kd_X9_count ex280) ml_L_197 mi_X9_count mv_X9_count (by decide) (Nat.le_of_ble_eq_true rfl) ⟨by show (kc + 1) ≤ 601024; omega, by show (nc + 6) ≤ 7293034; omega⟩ dL_law_1825 ?_
                                                              refine r_istore O [(6, .int x280), (5, .int x277), (0, .retAddr 0), (1, .ref l1), (2, .ref l2), (3, .ref l3), (4, .int l4)] dL_law_1828 (by decide) rfl ?_
                                                              refine r_aload_n O 4 dL_law_1830 rfl (Or.inl rfl) ?_
                                                              obtain ⟨x282, ex282, hf⟩ := bnd hf
                                                              refine r_callV (av := []) (st := []) O (c_X9_thrown ex282) mf_X9_thrown cf9 (kd_X9_thrown ex282) ml_L_106 mi_X9_thrown mv_X9_thrown (by decide) (Nat.le_of_ble_eq_true rfl) ⟨by show (kc + 1) ≤ 601024; omega, by show (nc + 6) ≤ 7293034; omega⟩ dL_law_1831 ?_
                                                              refine r_iload O 1 dL_law_1834 rfl ?_
                                                              by_cases hc : x282 = x277
                                                              · rw [if_pos hc] at hf
                                                                refine r_icmp_eq_t (tgt := 1841) O dL_law_1836 (by decide) hc ?_
                                                                refine r_iload O 1 dL_law_1841 rfl ?_
                                                                by_cases hc : x277 = 0
                                                                · rw [if_pos hc] at hf
                                                                  refine r_if_ne_f (tgt := 1858) O dL_law_1843 (by decide) hc ?_
                                                                  refine r_aload_n O 5 dL_law_1846 rfl (Or.inl rfl) ?_
                                                                  refine r_iconst O (v := 0) dL_law_1847 (by decide) ?_
                                                                  obtain ⟨x284, ex284, hf⟩ := bnd hf
                                                                  refine r_ldJ O ex284 dL_law_1848 ?_
                                                                  refine r_iload O 0 dL_law_1849 rfl ?_
                                                                  refine r_i2l O dL_law_1851 ?_
                                                                  refine r_lcmp O dL_law_1852 ?_
                                                                  by_cases hc : (lg_cmp x284 x280.toInt64) = 0
                                                                  · rw [if_pos hc] at hf
                                                                    refine r_if_eq_t (tgt := 1858) O dL_law_1853 (by decide) hc ?_
                                                                    refine r_goto (tgt := 1874) O dL_law_1858 (by decide) ?_
                                                                    refine r_iinc O 6 [(4, .int (l4 + 5)), (6, .int x280), (5, .int x277), (0, .retAddr 0), (1, .ref l1), (2, .ref l2), (3, .ref l3)] dL_law_1874 rfl rfl (by decide) rfl ?_
                                                                    refine r_goto (tgt := 23) O dL_law_1877 (by decide) ?_
                                                                    refine AW.widen (k' := kc + 15) (n' := nc + 836) (by omega) (by omega) (AW.sub [3, 4, 5, 6, 0] rfl ?_)
                                                                    exact ih _ _ (by omega) (by omega) _ _ hf
                                                                  · rw [if_neg hc] at hf
                                                                    refine r_if_eq_f (tgt := 1858) O dL_law_1853 (by decide) hc ?_
                                                                    refine r_iconst O (v := 0) dL_law_1856 (by decide) ?_
                                                                    cases hf
                                                                · rw [if_neg hc] at hf
                                                                  refine r_if_ne_t (tgt := 1858) O dL_law_1843 (by decide) hc ?_
                                                                  refine r_goto (tgt := 1874) O dL_law_1858 (by decide) ?_
                                                                  refine r_iinc O 6 [(4, .int (l4 + 5)), (6, .int x280), (5, .int x277), (0, .retAddr 0), (1, .ref l1), (2, .ref l2), (3, .ref l3)] dL_law_1874 rfl rfl (by decide) rfl ?_
                                                                  refine r_goto (tgt := 23) O dL_law_1877 (by decide) ?_
                                                                  refine AW.widen (k' := kc + 15) (n' := nc + 836) (by omega) (by omega) (AW.sub [3, 4, 5, 6, 0] rfl ?_)
                                                                  exact ih _ _ (by omega) (by omega) _ _ hf
                                                              · rw [if_neg hc] at hf
                                                                refine r_icmp_eq_f (tgt := 1841) O dL_law_1836 (by decide) hc ?_
                                                                refine r_iconst O (v := 0) dL_law_1839 (by decide) ?_
                                                                cases hf
                                                            · rw [if_neg hc] at hf
                                                              have hn1805 := hc
                                                              by_cases hc : x2 = 28
                                                              · rw [if_pos hc] at hf
                                                                refine r_table_in (off := 1822) (tgt := 1861) O dL_law_39 (by (rw [hc]; decide)) (by (rw [hc]; decide)) (by (rw [hc]; rfl)) (by decide) ?_
                                                                refine r_aload_n O 1 dL_law_1861 rfl (Or.inl rfl) ?_
                                                                obtain ⟨⟨x285, h286⟩, ex285, hf⟩ := bnd hf
                                                                dsimp only at hf
                                                                refine r_callV (av := []) (st := []) O (c_X8_isSame ex285) mf_X8_isSame cf8 (kd_X8_isSame ex285) ml_L_198 mi_X8_isSame mv_X8_isSame (by decide) (Nat.le_of_ble_eq_true rfl) ⟨by show kc ≤ 601024; omega, by show nc ≤ 7293034; omega⟩ dL_law_1862 ?_
                                                                refine r_aload_n O 2 dL_law_1865 rfl (Or.inl rfl) ?_
                                                                obtain ⟨⟨x287, h288⟩, ex287, hf⟩ := bnd hf
                                                                dsimp only at hf
                                                                refine r_callV (av := []) (st := [.int x285]) O (c_X9_isSame ex287) mf_X9_isSame cf9 (kd_X9_isSame ex287) ml_L_202 mi_X9_isSame mv_X9_isSame (by decide) (Nat.le_of_ble_eq_true rfl) ⟨by show kc ≤ 601024; omega, by show nc ≤ 7293034; omega⟩ dL_law_1866 ?_
                                                                by_cases hc : x285 = x287
                                                                · rw [if_pos hc] at hf
                                                                  refine r_icmp_eq_t (tgt := 1874) O dL_law_1869 (by decide) hc ?_
                                                                  refine r_iinc O 4 [(4, .int (l4 + 5)), (0, .retAddr 0), (1, .ref l1), (2, .ref l2), (3, .ref l3)] dL_law_1874 rfl rfl (by decide) rfl ?_
                                                                  refine r_goto (tgt := 23) O dL_law_1877 (by decide) ?_
                                                                  refine AW.widen (k' := kc + 15) (n' := nc + 836) (by omega) (by omega) (AW.sub [1, 2, 3, 4, 0] rfl ?_)
                                                                  exact ih _ _ (by omega) (by omega) _ _ hf
                                                                · rw [if_neg hc] at hf
                                                                  refine r_icmp_eq_f (tgt := 1874) O dL_law_1869 (by decide) hc ?_
                                                                  refine r_iconst O (v := 0) dL_law_1872 (by decide) ?_
                                                                  cases hf
                                                              · rw [if_neg hc] at hf
                                                                have hn1861 := hc
                                                                have hout := tb_out (x := x2) 0 29 (fun j hj => by
                                                                  rcases (show j = 0 ∨ j = 1 ∨ j = 2 ∨ j = 3 ∨ j = 4 ∨ j = 5 ∨ j = 6 ∨ j = 7 ∨ j = 8 ∨ j = 9 ∨ j = 10 ∨ j = 11 ∨ j = 12 ∨ j = 13 ∨ j = 14 ∨ j = 15 ∨ j = 16 ∨ j = 17 ∨ j = 18 ∨ j = 19 ∨ j = 20 ∨ j = 21 ∨ j = 22 ∨ j = 23 ∨ j = 24 ∨ j = 25 ∨ j = 26 ∨ j = 27 ∨ j = 28 by omega) with rfl | rfl | rfl | rfl | rfl | rfl | rfl | rfl | rfl | rfl | rfl | rfl | rfl | rfl | rfl | rfl | rfl | rfl | rfl | rfl | rfl | rfl | rfl | rfl | rfl | rfl | rfl | rfl | rfl
                                                                  · exact fun q => hn168 (q.trans (by decide))
                                                                  · exact fun q => hn260 (q.trans (by decide))
                                                                  · exact fun q => hn328 (q.trans (by decide))
                                                                  · exact fun q => hn396 (q.trans (by decide))
                                                                  · exact fun q => hn452 (q.trans (by decide))
                                                                  · exact fun q => hn496 (q.trans (by decide))
                                                                  · exact fun q => hn576 (q.trans (by decide))
                                                                  · exact fun q => hn632 (q.trans (by decide))
                                                                  · exact fun q => hn712 (q.trans (by decide))
                                                                  · exact fun q => hn780 (q.trans (by decide))
                                                                  · exact fun q => hn860 (q.trans (by decide))
                                                                  · exact fun q => hn952 (q.trans (by decide))
                                                                  · exact fun q => hn1032 (q.trans (by decide))
                                                                  · exact fun q => hn1112 (q.trans (by decide))
                                                                  · exact fun q => hn1180 (q.trans (by decide))
                                                                  · exact fun q => hn1248 (q.trans (by decide))
                                                                  · exact fun q => hn1272 (q.trans (by decide))
                                                                  · exact fun q => hn1316 (q.trans (by decide))
                                                                  · exact fun q => hn1360 (q.trans (by decide))
                                                                  · exact fun q => hn1404 (q.trans (by decide))
                                                                  · exact fun q => hn1471 (q.trans (by decide))
                                                                  · exact fun q => hn1538 (q.trans (by decide))
                                                                  · exact fun q => hn1606 (q.trans (by decide))
                                                                  · exact fun q => hn1674 (q.trans (by decide))
                                                                  · exact fun q => hn1699 (q.trans (by decide))
                                                                  · exact fun q => hn1724 (q.trans (by decide))
                                                                  · exact fun q => hn1749 (q.trans (by decide))
                                                                  · exact fun q => hn1805 (q.trans (by decide))
                                                                  · exact fun q => hn1861 (q.trans (by decide)))
                                                                refine r_table_out (tgt := 1874) O dL_law_39 hout (by decide) ?_
                                                                refine r_iinc O 4 [(4, .int (l4 + 5)), (0, .retAddr 0), (1, .ref l1), (2, .ref l2), (3, .ref l3)] dL_law_1874 rfl rfl (by decide) rfl ?_
                                                                refine r_goto (tgt := 23) O dL_law_1877 (by decide) ?_
                                                                refine AW.widen (k' := kc + 15) (n' := nc + 836) (by omega) (by omega) (AW.sub [1, 2, 3, 4, 0] rfl ?_)
                                                                exact ih _ _ (by omega) (by omega) _ _ hf
set_option maxRecDepth 100000 in
set_option maxHeartbeats 40000000 in
theorem s_L_law {p : Program} {l : Launch} {e : Env} {s : State} {m : MethodId} {below : List Frame} {meth : Method} {c : Code} {G : GT} (O : OkC p l s m #[Value.ref (gS G 0)] meth c G cL_law 8 RL) {L : Nat} {xs : Nat → Int32} (hX : scX G L xs s) {h0 wh : AH} (kk : AW p l e room_1 s m #[Value.ref (gS G 0)] below meth c G 8 (lw_Z below #[Value.ref (gS G 0)] s) wh 601024 7293034 1880 [] []) (hf : f_L_law L xs h0 = some wh) : AW p l e room_1 s m #[Value.ref (gS G 0)] below meth c G 8 (lw_Z below #[Value.ref (gS G 0)] s) h0 0 0 0 [(0, .retAddr 0)] [] := by
  unfold f_L_law at hf
  obtain ⟨h1, eh1, hf⟩ := bnd hf
  refine r_new O cf8 kl_L_8 (by decide) (by decide) dL_law_0 ?_
  rw [Option.some.inj eh1]
  refine r_dup O dL_law_3 rfl ?_
  obtain ⟨h3, eh3, hf⟩ := bnd hf
  refine r_callI (av := []) (st := [.ref (aN h0)]) O (c_X8_init eh3) mf_X8_init rfl ml_L_96 mi_X8_init (by decide) (Nat.le_of_ble_eq_true rfl) (by decide) dL_law_4 ?_
  refine r_astore_n O [(1, .ref (aN h0)), (0, .retAddr 0)] dL_law_7 rfl (by decide) rfl ?_
  obtain ⟨h4, eh4, hf⟩ := bnd hf
  refine r_new O cf9 kl_L_97 (by decide) (by decide) dL_law_8 ?_
  rw [Option.some.inj eh4]
  refine r_dup O dL_law_11 rfl ?_
  obtain ⟨h6, eh6, hf⟩ := bnd hf
  refine r_callI (av := []) (st := [.ref (aN h3)]) O (c_X9_init eh6) mf_X9_init rfl ml_L_99 mi_X9_init (by decide) (Nat.le_of_ble_eq_true rfl) (by decide) dL_law_12 ?_
  refine r_astore_n O [(2, .ref (aN h3)), (1, .ref (aN h0)), (0, .retAddr 0)] dL_law_15 rfl (by decide) rfl ?_
  refine r_iconst O (v := 1) dL_law_16 (by decide) ?_
  obtain ⟨h7, eh7, hf⟩ := bnd hf
  refine r_newJ O waJ (len := 1) (by decide) (by decide) (by decide) (by decide) (by decide) dL_law_17 ?_
  rw [Option.some.inj eh7]
  refine r_astore_n O [(3, .ref (aN h6)), (2, .ref (aN h3)), (1, .ref (aN h0)), (0, .retAddr 0)] dL_law_19 rfl (by decide) rfl ?_
  refine r_iconst O (v := 0) dL_law_20 (by decide) ?_
  refine r_istore O [(4, .int 0), (3, .ref (aN h6)), (2, .ref (aN h3)), (1, .ref (aN h0)), (0, .retAddr 0)] dL_law_21 (by decide) rfl ?_
  refine AW.sub [4, 3, 2, 1, 0] rfl ?_
  exact s_L_law_23 O hX kk 513 _ _ (by decide) (by decide) _ _ hf
