/-! ===== the reference: small questions, halts, comings ===== -/
/-- the reference and its arrays, from m on -/
def MXr : List (Nat × Nat) := [(8, 1), (9, 2), (10, 3), (11, 4), (12, 5), (13, 6), (14, 7), (15, 8), (16, 9), (17, 10), (18, 11), (19, 12), (20, 13), (21, 24), (22, 35), (26, 44), (27, 665), (28, 1286), (29, 1287), (30, 1296), (31, 1305), (32, 1315), (33, 1340), (34, 1344), (35, 1345), (42, 1346), (43, 1355), (44, 1364), (45, 1365), (47, 1366), (50, 1367), (51, 1368), (52, 1369), (55, 1370), (60, 1371), (61, 1492), (62, 1613), (63, 1734), (64, 1855), (65, 2016)]
def MXa : List (Nat × Nat) := [(1, 600), (2, 4), (3, 2), (4, 2), (5, 10), (6, 10), (7, 8), (8, 8), (9, 8), (10, 8), (11, 8), (12, 8), (1286, 620), (1344, 8), (1345, 12), (1364, 8), (1365, 8), (1366, 12), (1367, 10), (1368, 10240), (1369, 6), (1370, 8)]
def MXg : List (Nat × Nat × Nat) := [(13, 10, 10), (24, 10, 10), (35, 8, 10), (44, 620, 2), (665, 620, 2), (1287, 8, 10), (1296, 8, 10), (1305, 9, 2), (1315, 24, 160), (1340, 3, 4042), (1346, 8, 10), (1355, 8, 10), (1371, 120, 5), (1492, 120, 5), (1613, 120, 4), (1734, 120, 4), (1855, 160, 3), (2016, 160, 3)]
def MX (X : jx_X) (R : jx_R) (m : Nat) : Prop := X.2.1 m = some (12, 0) ∧ (∀ e, e ∈ MXr → R m e.1 = some (m + e.2)) ∧ (∀ e, e ∈ MXa → X.2.1 (m + e.1) = some (100, e.2)) ∧ ∀ e, e ∈ MXg → X.2.1 (m + e.1) = some (104, e.2.1) ∧ ∀ i, i < e.2.1 → R (m + e.1) i = some (m + (e.1 + 1) + i) ∧ X.2.1 (m + (e.1 + 1) + i) = some (100, e.2.2)
theorem s_M_0 {X : jx_X} {R : jx_R} {a : Nat} (h : MX X R a) : X.2.1 a = some (12, 0) := h.1
theorem r_M_8 {X : jx_X} {R : jx_R} {a : Nat} (h : MX X R a) : R a 8 = some (a + 1) := h.2.1 (8, 1) (by decide)
theorem r_M_9 {X : jx_X} {R : jx_R} {a : Nat} (h : MX X R a) : R a 9 = some (a + 2) := h.2.1 (9, 2) (by decide)
theorem r_M_10 {X : jx_X} {R : jx_R} {a : Nat} (h : MX X R a) : R a 10 = some (a + 3) := h.2.1 (10, 3) (by decide)
theorem r_M_11 {X : jx_X} {R : jx_R} {a : Nat} (h : MX X R a) : R a 11 = some (a + 4) := h.2.1 (11, 4) (by decide)
theorem r_M_12 {X : jx_X} {R : jx_R} {a : Nat} (h : MX X R a) : R a 12 = some (a + 5) := h.2.1 (12, 5) (by decide)
theorem r_M_13 {X : jx_X} {R : jx_R} {a : Nat} (h : MX X R a) : R a 13 = some (a + 6) := h.2.1 (13, 6) (by decide)
theorem r_M_14 {X : jx_X} {R : jx_R} {a : Nat} (h : MX X R a) : R a 14 = some (a + 7) := h.2.1 (14, 7) (by decide)
theorem r_M_15 {X : jx_X} {R : jx_R} {a : Nat} (h : MX X R a) : R a 15 = some (a + 8) := h.2.1 (15, 8) (by decide)
theorem r_M_16 {X : jx_X} {R : jx_R} {a : Nat} (h : MX X R a) : R a 16 = some (a + 9) := h.2.1 (16, 9) (by decide)
theorem r_M_17 {X : jx_X} {R : jx_R} {a : Nat} (h : MX X R a) : R a 17 = some (a + 10) := h.2.1 (17, 10) (by decide)
theorem r_M_18 {X : jx_X} {R : jx_R} {a : Nat} (h : MX X R a) : R a 18 = some (a + 11) := h.2.1 (18, 11) (by decide)
theorem r_M_19 {X : jx_X} {R : jx_R} {a : Nat} (h : MX X R a) : R a 19 = some (a + 12) := h.2.1 (19, 12) (by decide)
theorem r_M_20 {X : jx_X} {R : jx_R} {a : Nat} (h : MX X R a) : R a 20 = some (a + 13) := h.2.1 (20, 13) (by decide)
theorem r_M_21 {X : jx_X} {R : jx_R} {a : Nat} (h : MX X R a) : R a 21 = some (a + 24) := h.2.1 (21, 24) (by decide)
theorem r_M_22 {X : jx_X} {R : jx_R} {a : Nat} (h : MX X R a) : R a 22 = some (a + 35) := h.2.1 (22, 35) (by decide)
theorem r_M_26 {X : jx_X} {R : jx_R} {a : Nat} (h : MX X R a) : R a 26 = some (a + 44) := h.2.1 (26, 44) (by decide)
theorem r_M_27 {X : jx_X} {R : jx_R} {a : Nat} (h : MX X R a) : R a 27 = some (a + 665) := h.2.1 (27, 665) (by decide)
theorem r_M_28 {X : jx_X} {R : jx_R} {a : Nat} (h : MX X R a) : R a 28 = some (a + 1286) := h.2.1 (28, 1286) (by decide)
theorem r_M_29 {X : jx_X} {R : jx_R} {a : Nat} (h : MX X R a) : R a 29 = some (a + 1287) := h.2.1 (29, 1287) (by decide)
theorem r_M_30 {X : jx_X} {R : jx_R} {a : Nat} (h : MX X R a) : R a 30 = some (a + 1296) := h.2.1 (30, 1296) (by decide)
theorem r_M_31 {X : jx_X} {R : jx_R} {a : Nat} (h : MX X R a) : R a 31 = some (a + 1305) := h.2.1 (31, 1305) (by decide)
theorem r_M_32 {X : jx_X} {R : jx_R} {a : Nat} (h : MX X R a) : R a 32 = some (a + 1315) := h.2.1 (32, 1315) (by decide)
theorem r_M_33 {X : jx_X} {R : jx_R} {a : Nat} (h : MX X R a) : R a 33 = some (a + 1340) := h.2.1 (33, 1340) (by decide)
theorem r_M_34 {X : jx_X} {R : jx_R} {a : Nat} (h : MX X R a) : R a 34 = some (a + 1344) := h.2.1 (34, 1344) (by decide)
theorem r_M_35 {X : jx_X} {R : jx_R} {a : Nat} (h : MX X R a) : R a 35 = some (a + 1345) := h.2.1 (35, 1345) (by decide)
theorem r_M_42 {X : jx_X} {R : jx_R} {a : Nat} (h : MX X R a) : R a 42 = some (a + 1346) := h.2.1 (42, 1346) (by decide)
theorem r_M_43 {X : jx_X} {R : jx_R} {a : Nat} (h : MX X R a) : R a 43 = some (a + 1355) := h.2.1 (43, 1355) (by decide)
theorem r_M_44 {X : jx_X} {R : jx_R} {a : Nat} (h : MX X R a) : R a 44 = some (a + 1364) := h.2.1 (44, 1364) (by decide)
theorem r_M_45 {X : jx_X} {R : jx_R} {a : Nat} (h : MX X R a) : R a 45 = some (a + 1365) := h.2.1 (45, 1365) (by decide)
theorem r_M_47 {X : jx_X} {R : jx_R} {a : Nat} (h : MX X R a) : R a 47 = some (a + 1366) := h.2.1 (47, 1366) (by decide)
theorem r_M_50 {X : jx_X} {R : jx_R} {a : Nat} (h : MX X R a) : R a 50 = some (a + 1367) := h.2.1 (50, 1367) (by decide)
theorem r_M_51 {X : jx_X} {R : jx_R} {a : Nat} (h : MX X R a) : R a 51 = some (a + 1368) := h.2.1 (51, 1368) (by decide)
theorem r_M_52 {X : jx_X} {R : jx_R} {a : Nat} (h : MX X R a) : R a 52 = some (a + 1369) := h.2.1 (52, 1369) (by decide)
theorem r_M_55 {X : jx_X} {R : jx_R} {a : Nat} (h : MX X R a) : R a 55 = some (a + 1370) := h.2.1 (55, 1370) (by decide)
theorem r_M_60 {X : jx_X} {R : jx_R} {a : Nat} (h : MX X R a) : R a 60 = some (a + 1371) := h.2.1 (60, 1371) (by decide)
theorem r_M_61 {X : jx_X} {R : jx_R} {a : Nat} (h : MX X R a) : R a 61 = some (a + 1492) := h.2.1 (61, 1492) (by decide)
theorem r_M_62 {X : jx_X} {R : jx_R} {a : Nat} (h : MX X R a) : R a 62 = some (a + 1613) := h.2.1 (62, 1613) (by decide)
theorem r_M_63 {X : jx_X} {R : jx_R} {a : Nat} (h : MX X R a) : R a 63 = some (a + 1734) := h.2.1 (63, 1734) (by decide)
theorem r_M_64 {X : jx_X} {R : jx_R} {a : Nat} (h : MX X R a) : R a 64 = some (a + 1855) := h.2.1 (64, 1855) (by decide)
theorem r_M_65 {X : jx_X} {R : jx_R} {a : Nat} (h : MX X R a) : R a 65 = some (a + 2016) := h.2.1 (65, 2016) (by decide)
theorem s_M_1 {X : jx_X} {R : jx_R} {a : Nat} (h : MX X R a) : X.2.1 (a + 1) = some (100, 600) := h.2.2.1 (1, 600) (by decide)
theorem s_M_2 {X : jx_X} {R : jx_R} {a : Nat} (h : MX X R a) : X.2.1 (a + 2) = some (100, 4) := h.2.2.1 (2, 4) (by decide)
theorem s_M_3 {X : jx_X} {R : jx_R} {a : Nat} (h : MX X R a) : X.2.1 (a + 3) = some (100, 2) := h.2.2.1 (3, 2) (by decide)
theorem s_M_4 {X : jx_X} {R : jx_R} {a : Nat} (h : MX X R a) : X.2.1 (a + 4) = some (100, 2) := h.2.2.1 (4, 2) (by decide)
theorem s_M_5 {X : jx_X} {R : jx_R} {a : Nat} (h : MX X R a) : X.2.1 (a + 5) = some (100, 10) := h.2.2.1 (5, 10) (by decide)
theorem s_M_6 {X : jx_X} {R : jx_R} {a : Nat} (h : MX X R a) : X.2.1 (a + 6) = some (100, 10) := h.2.2.1 (6, 10) (by decide)
theorem s_M_7 {X : jx_X} {R : jx_R} {a : Nat} (h : MX X R a) : X.2.1 (a + 7) = some (100, 8) := h.2.2.1 (7, 8) (by decide)
theorem s_M_8 {X : jx_X} {R : jx_R} {a : Nat} (h : MX X R a) : X.2.1 (a + 8) = some (100, 8) := h.2.2.1 (8, 8) (by decide)
theorem s_M_9 {X : jx_X} {R : jx_R} {a : Nat} (h : MX X R a) : X.2.1 (a + 9) = some (100, 8) := h.2.2.1 (9, 8) (by decide)
theorem s_M_10 {X : jx_X} {R : jx_R} {a : Nat} (h : MX X R a) : X.2.1 (a + 10) = some (100, 8) := h.2.2.1 (10, 8) (by decide)
theorem s_M_11 {X : jx_X} {R : jx_R} {a : Nat} (h : MX X R a) : X.2.1 (a + 11) = some (100, 8) := h.2.2.1 (11, 8) (by decide)
theorem s_M_12 {X : jx_X} {R : jx_R} {a : Nat} (h : MX X R a) : X.2.1 (a + 12) = some (100, 8) := h.2.2.1 (12, 8) (by decide)
theorem s_M_1286 {X : jx_X} {R : jx_R} {a : Nat} (h : MX X R a) : X.2.1 (a + 1286) = some (100, 620) := h.2.2.1 (1286, 620) (by decide)
theorem s_M_1344 {X : jx_X} {R : jx_R} {a : Nat} (h : MX X R a) : X.2.1 (a + 1344) = some (100, 8) := h.2.2.1 (1344, 8) (by decide)
theorem s_M_1345 {X : jx_X} {R : jx_R} {a : Nat} (h : MX X R a) : X.2.1 (a + 1345) = some (100, 12) := h.2.2.1 (1345, 12) (by decide)
theorem s_M_1364 {X : jx_X} {R : jx_R} {a : Nat} (h : MX X R a) : X.2.1 (a + 1364) = some (100, 8) := h.2.2.1 (1364, 8) (by decide)
theorem s_M_1365 {X : jx_X} {R : jx_R} {a : Nat} (h : MX X R a) : X.2.1 (a + 1365) = some (100, 8) := h.2.2.1 (1365, 8) (by decide)
theorem s_M_1366 {X : jx_X} {R : jx_R} {a : Nat} (h : MX X R a) : X.2.1 (a + 1366) = some (100, 12) := h.2.2.1 (1366, 12) (by decide)
theorem s_M_1367 {X : jx_X} {R : jx_R} {a : Nat} (h : MX X R a) : X.2.1 (a + 1367) = some (100, 10) := h.2.2.1 (1367, 10) (by decide)
theorem s_M_1368 {X : jx_X} {R : jx_R} {a : Nat} (h : MX X R a) : X.2.1 (a + 1368) = some (100, 10240) := h.2.2.1 (1368, 10240) (by decide)
theorem s_M_1369 {X : jx_X} {R : jx_R} {a : Nat} (h : MX X R a) : X.2.1 (a + 1369) = some (100, 6) := h.2.2.1 (1369, 6) (by decide)
theorem s_M_1370 {X : jx_X} {R : jx_R} {a : Nat} (h : MX X R a) : X.2.1 (a + 1370) = some (100, 8) := h.2.2.1 (1370, 8) (by decide)
theorem s_M_13 {X : jx_X} {R : jx_R} {a : Nat} (h : MX X R a) : X.2.1 (a + 13) = some (104, 10) := (h.2.2.2 (13, 10, 10) (by decide)).1
theorem rr_M_13 {X : jx_X} {R : jx_R} {a : Nat} (h : MX X R a) {i : Nat} (hi : i < 10) : R (a + 13) i = some (a + 14 + i) := ((h.2.2.2 (13, 10, 10) (by decide)).2 i hi).1
theorem sr_M_13 {X : jx_X} {R : jx_R} {a : Nat} (h : MX X R a) {i : Nat} (hi : i < 10) : X.2.1 (a + 14 + i) = some (100, 10) := ((h.2.2.2 (13, 10, 10) (by decide)).2 i hi).2
theorem s_M_24 {X : jx_X} {R : jx_R} {a : Nat} (h : MX X R a) : X.2.1 (a + 24) = some (104, 10) := (h.2.2.2 (24, 10, 10) (by decide)).1
theorem rr_M_24 {X : jx_X} {R : jx_R} {a : Nat} (h : MX X R a) {i : Nat} (hi : i < 10) : R (a + 24) i = some (a + 25 + i) := ((h.2.2.2 (24, 10, 10) (by decide)).2 i hi).1
theorem sr_M_24 {X : jx_X} {R : jx_R} {a : Nat} (h : MX X R a) {i : Nat} (hi : i < 10) : X.2.1 (a + 25 + i) = some (100, 10) := ((h.2.2.2 (24, 10, 10) (by decide)).2 i hi).2
theorem s_M_35 {X : jx_X} {R : jx_R} {a : Nat} (h : MX X R a) : X.2.1 (a + 35) = some (104, 8) := (h.2.2.2 (35, 8, 10) (by decide)).1
theorem rr_M_35 {X : jx_X} {R : jx_R} {a : Nat} (h : MX X R a) {i : Nat} (hi : i < 8) : R (a + 35) i = some (a + 36 + i) := ((h.2.2.2 (35, 8, 10) (by decide)).2 i hi).1
theorem sr_M_35 {X : jx_X} {R : jx_R} {a : Nat} (h : MX X R a) {i : Nat} (hi : i < 8) : X.2.1 (a + 36 + i) = some (100, 10) := ((h.2.2.2 (35, 8, 10) (by decide)).2 i hi).2
theorem s_M_44 {X : jx_X} {R : jx_R} {a : Nat} (h : MX X R a) : X.2.1 (a + 44) = some (104, 620) := (h.2.2.2 (44, 620, 2) (by decide)).1
theorem rr_M_44 {X : jx_X} {R : jx_R} {a : Nat} (h : MX X R a) {i : Nat} (hi : i < 620) : R (a + 44) i = some (a + 45 + i) := ((h.2.2.2 (44, 620, 2) (by decide)).2 i hi).1
theorem sr_M_44 {X : jx_X} {R : jx_R} {a : Nat} (h : MX X R a) {i : Nat} (hi : i < 620) : X.2.1 (a + 45 + i) = some (100, 2) := ((h.2.2.2 (44, 620, 2) (by decide)).2 i hi).2
theorem s_M_665 {X : jx_X} {R : jx_R} {a : Nat} (h : MX X R a) : X.2.1 (a + 665) = some (104, 620) := (h.2.2.2 (665, 620, 2) (by decide)).1
theorem rr_M_665 {X : jx_X} {R : jx_R} {a : Nat} (h : MX X R a) {i : Nat} (hi : i < 620) : R (a + 665) i = some (a + 666 + i) := ((h.2.2.2 (665, 620, 2) (by decide)).2 i hi).1
theorem sr_M_665 {X : jx_X} {R : jx_R} {a : Nat} (h : MX X R a) {i : Nat} (hi : i < 620) : X.2.1 (a + 666 + i) = some (100, 2) := ((h.2.2.2 (665, 620, 2) (by decide)).2 i hi).2
theorem s_M_1287 {X : jx_X} {R : jx_R} {a : Nat} (h : MX X R a) : X.2.1 (a + 1287) = some (104, 8) := (h.2.2.2 (1287, 8, 10) (by decide)).1
theorem rr_M_1287 {X : jx_X} {R : jx_R} {a : Nat} (h : MX X R a) {i : Nat} (hi : i < 8) : R (a + 1287) i = some (a + 1288 + i) := ((h.2.2.2 (1287, 8, 10) (by decide)).2 i hi).1
theorem sr_M_1287 {X : jx_X} {R : jx_R} {a : Nat} (h : MX X R a) {i : Nat} (hi : i < 8) : X.2.1 (a + 1288 + i) = some (100, 10) := ((h.2.2.2 (1287, 8, 10) (by decide)).2 i hi).2
theorem s_M_1296 {X : jx_X} {R : jx_R} {a : Nat} (h : MX X R a) : X.2.1 (a + 1296) = some (104, 8) := (h.2.2.2 (1296, 8, 10) (by decide)).1
theorem rr_M_1296 {X : jx_X} {R : jx_R} {a : Nat} (h : MX X R a) {i : Nat} (hi : i < 8) : R (a + 1296) i = some (a + 1297 + i) := ((h.2.2.2 (1296, 8, 10) (by decide)).2 i hi).1
theorem sr_M_1296 {X : jx_X} {R : jx_R} {a : Nat} (h : MX X R a) {i : Nat} (hi : i < 8) : X.2.1 (a + 1297 + i) = some (100, 10) := ((h.2.2.2 (1296, 8, 10) (by decide)).2 i hi).2
theorem s_M_1305 {X : jx_X} {R : jx_R} {a : Nat} (h : MX X R a) : X.2.1 (a + 1305) = some (104, 9) := (h.2.2.2 (1305, 9, 2) (by decide)).1
theorem rr_M_1305 {X : jx_X} {R : jx_R} {a : Nat} (h : MX X R a) {i : Nat} (hi : i < 9) : R (a + 1305) i = some (a + 1306 + i) := ((h.2.2.2 (1305, 9, 2) (by decide)).2 i hi).1
theorem sr_M_1305 {X : jx_X} {R : jx_R} {a : Nat} (h : MX X R a) {i : Nat} (hi : i < 9) : X.2.1 (a + 1306 + i) = some (100, 2) := ((h.2.2.2 (1305, 9, 2) (by decide)).2 i hi).2
theorem s_M_1315 {X : jx_X} {R : jx_R} {a : Nat} (h : MX X R a) : X.2.1 (a + 1315) = some (104, 24) := (h.2.2.2 (1315, 24, 160) (by decide)).1
theorem rr_M_1315 {X : jx_X} {R : jx_R} {a : Nat} (h : MX X R a) {i : Nat} (hi : i < 24) : R (a + 1315) i = some (a + 1316 + i) := ((h.2.2.2 (1315, 24, 160) (by decide)).2 i hi).1
theorem sr_M_1315 {X : jx_X} {R : jx_R} {a : Nat} (h : MX X R a) {i : Nat} (hi : i < 24) : X.2.1 (a + 1316 + i) = some (100, 160) := ((h.2.2.2 (1315, 24, 160) (by decide)).2 i hi).2
theorem s_M_1340 {X : jx_X} {R : jx_R} {a : Nat} (h : MX X R a) : X.2.1 (a + 1340) = some (104, 3) := (h.2.2.2 (1340, 3, 4042) (by decide)).1
theorem rr_M_1340 {X : jx_X} {R : jx_R} {a : Nat} (h : MX X R a) {i : Nat} (hi : i < 3) : R (a + 1340) i = some (a + 1341 + i) := ((h.2.2.2 (1340, 3, 4042) (by decide)).2 i hi).1
theorem sr_M_1340 {X : jx_X} {R : jx_R} {a : Nat} (h : MX X R a) {i : Nat} (hi : i < 3) : X.2.1 (a + 1341 + i) = some (100, 4042) := ((h.2.2.2 (1340, 3, 4042) (by decide)).2 i hi).2
theorem s_M_1346 {X : jx_X} {R : jx_R} {a : Nat} (h : MX X R a) : X.2.1 (a + 1346) = some (104, 8) := (h.2.2.2 (1346, 8, 10) (by decide)).1
theorem rr_M_1346 {X : jx_X} {R : jx_R} {a : Nat} (h : MX X R a) {i : Nat} (hi : i < 8) : R (a + 1346) i = some (a + 1347 + i) := ((h.2.2.2 (1346, 8, 10) (by decide)).2 i hi).1
theorem sr_M_1346 {X : jx_X} {R : jx_R} {a : Nat} (h : MX X R a) {i : Nat} (hi : i < 8) : X.2.1 (a + 1347 + i) = some (100, 10) := ((h.2.2.2 (1346, 8, 10) (by decide)).2 i hi).2
theorem s_M_1355 {X : jx_X} {R : jx_R} {a : Nat} (h : MX X R a) : X.2.1 (a + 1355) = some (104, 8) := (h.2.2.2 (1355, 8, 10) (by decide)).1
theorem rr_M_1355 {X : jx_X} {R : jx_R} {a : Nat} (h : MX X R a) {i : Nat} (hi : i < 8) : R (a + 1355) i = some (a + 1356 + i) := ((h.2.2.2 (1355, 8, 10) (by decide)).2 i hi).1
theorem sr_M_1355 {X : jx_X} {R : jx_R} {a : Nat} (h : MX X R a) {i : Nat} (hi : i < 8) : X.2.1 (a + 1356 + i) = some (100, 10) := ((h.2.2.2 (1355, 8, 10) (by decide)).2 i hi).2
theorem s_M_1371 {X : jx_X} {R : jx_R} {a : Nat} (h : MX X R a) : X.2.1 (a + 1371) = some (104, 120) := (h.2.2.2 (1371, 120, 5) (by decide)).1
theorem rr_M_1371 {X : jx_X} {R : jx_R} {a : Nat} (h : MX X R a) {i : Nat} (hi : i < 120) : R (a + 1371) i = some (a + 1372 + i) := ((h.2.2.2 (1371, 120, 5) (by decide)).2 i hi).1
theorem sr_M_1371 {X : jx_X} {R : jx_R} {a : Nat} (h : MX X R a) {i : Nat} (hi : i < 120) : X.2.1 (a + 1372 + i) = some (100, 5) := ((h.2.2.2 (1371, 120, 5) (by decide)).2 i hi).2
theorem s_M_1492 {X : jx_X} {R : jx_R} {a : Nat} (h : MX X R a) : X.2.1 (a + 1492) = some (104, 120) := (h.2.2.2 (1492, 120, 5) (by decide)).1
theorem rr_M_1492 {X : jx_X} {R : jx_R} {a : Nat} (h : MX X R a) {i : Nat} (hi : i < 120) : R (a + 1492) i = some (a + 1493 + i) := ((h.2.2.2 (1492, 120, 5) (by decide)).2 i hi).1
theorem sr_M_1492 {X : jx_X} {R : jx_R} {a : Nat} (h : MX X R a) {i : Nat} (hi : i < 120) : X.2.1 (a + 1493 + i) = some (100, 5) := ((h.2.2.2 (1492, 120, 5) (by decide)).2 i hi).2
theorem s_M_1613 {X : jx_X} {R : jx_R} {a : Nat} (h : MX X R a) : X.2.1 (a + 1613) = some (104, 120) := (h.2.2.2 (1613, 120, 4) (by decide)).1
theorem rr_M_1613 {X : jx_X} {R : jx_R} {a : Nat} (h : MX X R a) {i : Nat} (hi : i < 120) : R (a + 1613) i = some (a + 1614 + i) := ((h.2.2.2 (1613, 120, 4) (by decide)).2 i hi).1
theorem sr_M_1613 {X : jx_X} {R : jx_R} {a : Nat} (h : MX X R a) {i : Nat} (hi : i < 120) : X.2.1 (a + 1614 + i) = some (100, 4) := ((h.2.2.2 (1613, 120, 4) (by decide)).2 i hi).2
theorem s_M_1734 {X : jx_X} {R : jx_R} {a : Nat} (h : MX X R a) : X.2.1 (a + 1734) = some (104, 120) := (h.2.2.2 (1734, 120, 4) (by decide)).1
theorem rr_M_1734 {X : jx_X} {R : jx_R} {a : Nat} (h : MX X R a) {i : Nat} (hi : i < 120) : R (a + 1734) i = some (a + 1735 + i) := ((h.2.2.2 (1734, 120, 4) (by decide)).2 i hi).1
theorem sr_M_1734 {X : jx_X} {R : jx_R} {a : Nat} (h : MX X R a) {i : Nat} (hi : i < 120) : X.2.1 (a + 1735 + i) = some (100, 4) := ((h.2.2.2 (1734, 120, 4) (by decide)).2 i hi).2
theorem s_M_1855 {X : jx_X} {R : jx_R} {a : Nat} (h : MX X R a) : X.2.1 (a + 1855) = some (104, 160) := (h.2.2.2 (1855, 160, 3) (by decide)).1
theorem rr_M_1855 {X : jx_X} {R : jx_R} {a : Nat} (h : MX X R a) {i : Nat} (hi : i < 160) : R (a + 1855) i = some (a + 1856 + i) := ((h.2.2.2 (1855, 160, 3) (by decide)).2 i hi).1
theorem sr_M_1855 {X : jx_X} {R : jx_R} {a : Nat} (h : MX X R a) {i : Nat} (hi : i < 160) : X.2.1 (a + 1856 + i) = some (100, 3) := ((h.2.2.2 (1855, 160, 3) (by decide)).2 i hi).2
theorem s_M_2016 {X : jx_X} {R : jx_R} {a : Nat} (h : MX X R a) : X.2.1 (a + 2016) = some (104, 160) := (h.2.2.2 (2016, 160, 3) (by decide)).1
theorem rr_M_2016 {X : jx_X} {R : jx_R} {a : Nat} (h : MX X R a) {i : Nat} (hi : i < 160) : R (a + 2016) i = some (a + 2017 + i) := ((h.2.2.2 (2016, 160, 3) (by decide)).2 i hi).1
theorem sr_M_2016 {X : jx_X} {R : jx_R} {a : Nat} (h : MX X R a) {i : Nat} (hi : i < 160) : X.2.1 (a + 2017 + i) = some (100, 3) := ((h.2.2.2 (2016, 160, 3) (by decide)).2 i hi).2
/-- a row in an array, its length in field k of the reference -/
def ML (I : jx_I) (b k a : Nat) (L : List Nat) : Prop := (I b k).toInt = L.length ∧ ∀ (i x : Nat), L[i]? = some x → (I a i).toInt = (x : Int)
theorem ML_get {I : jx_I} {b k a : Nat} {L : List Nat} (h : ML I b k a L) {i : Nat} (hi : i < L.length) : ∃ y, L[i]? = some y ∧ (I a i).toInt = (y : Int) := ⟨_, List.getElem?_eq_getElem hi, h.2 i _ (List.getElem?_eq_getElem hi)⟩
theorem ML_gd {I : jx_I} {b k a : Nat} {L : List Nat} (h : ML I b k a L) {i : Nat} (hi : i < L.length) : (I a i).toInt = (L.getD i 0 : Nat) ∧ L.getD i 0 ∈ L := by
  obtain ⟨y, hy, hv⟩ := ML_get h hi
  have : L.getD i 0 = y := by rw [List.getD_eq_getElem?_getD, hy]; rfl
  rw [this]
  exact ⟨hv, List.mem_of_getElem? hy⟩
theorem ML_of {I I' : jx_I} {b k a : Nat} {L : List Nat} (h : ML I b k a L) (e : I' b k = I b k) (e1 : I' a = I a) : ML I' b k a L := by
  unfold ML
  rw [e, e1]
  exact h
theorem ML_put {I I' : jx_I} {b k a x : Nat} {L : List Nat} (h : ML I b k a L) (h1 : (I' b k).toInt = (L.length + 1 : Nat)) (h2 : (I' a L.length).toInt = (x : Int)) (h3 : ∀ i, i < L.length → I' a i = I a i) : ML I' b k a (L ++ [x]) := by
  refine ⟨by rw [h1]; simp, fun i y hk => ?_⟩
  rcases Nat.lt_trichotomy i L.length with hc | hc | hc
  · rw [List.getElem?_append_left hc] at hk
    rw [h3 i hc]
    exact h.2 i y hk
  · subst hc
    simp at hk
    rw [h2, hk]
  · rw [List.getElem?_append_right (by omega), List.getElem?_eq_none (by simp; omega)] at hk
    cases hk
/-- griefs by camel and place, from array x on -/
def MH (I : jx_I) (x n m : Nat) (g : GT) : Prop := ∀ p c, p < n → c < m → (I (x + c) p).toInt = g p c
theorem MH_of {I I' : jx_I} {x n m : Nat} {g : GT} (h : MH I x n m g) (e : ∀ c, c < m → I' (x + c) = I (x + c)) : MH I' x n m g := fun p c hp hc => by rw [e c hc]; exact h p c hp hc
theorem MH_eq {I : jx_I} {x n m : Nat} {g g' : GT} (h : MH I x n m g) (e : ∀ p c, p < n → c < m → g' p c = g p c) : MH I x n m g' := fun p c hp hc => by rw [e p c hp hc]; exact h p c hp hc
theorem MH_u {I : jx_I} {x n m p c : Nat} {g : GT} {v : Int} (h : MH I x n m g) (hv : -2147483648 ≤ v ∧ v < 2147483648) : MH (jx_u I (x + c) p (Int32.ofInt v)) x n m (gu g p c v) := by
  intro q e hq he
  unfold gu
  by_cases h1 : q = p ∧ e = c
  · rw [if_pos h1, h1.1, h1.2, jx_u_s]; exact jy_toInt hv
  · rw [if_neg h1]
    by_cases h2 : e = c
    · rw [h2, jx_u_k _ _ _ _ (by intro h3; exact h1 ⟨h3, h2⟩), ← h2]; exact h q e hq he
    · rw [jx_u_a _ _ _ _ (by omega)]; exact h q e hq he
/-- the reference's law -/
def MW (I : jx_I) (m : Nat) (cs : List Int) : Prop := (I m 23).toInt = cs.length ∧ ∀ (k : Nat) (c : Int), cs[k]? = some c → (c < 100 → (I (m + 45 + k) 0).toInt = 0 ∧ (I (m + 45 + k) 1).toInt = c) ∧ (100 ≤ c → c < 105 → (I (m + 45 + k) 0).toInt = 1 ∧ (I (m + 45 + k) 1).toInt = c - 100) ∧ (105 ≤ c → (I (m + 45 + k) 0).toInt = c - 103)
/-- the reference holds a land -/
def MD (I : jx_I) (m : Nat) (l : LT) : Prop := ((I (m + 4) 0).toInt = Ln l ∧ (I (m + 4) 1).toInt = Lm l) ∧ (∀ p, p < Ln l → (I (m + 6) p).toInt = Lk l p) ∧ (∀ p q, p < Ln l → q < Ln l → (I (m + 25 + p) q).toInt = Lr l p q) ∧ (∀ c, c < Lm l → (I (m + 8) c).toInt = Lp l c ∧ (I (m + 10) c).toInt = Lo l c ∧ (I (m + 12) c).toInt = (Lf l c : Int)) ∧ MW I m (Lc l)
theorem MD_of {I I' : jx_I} {m : Nat} {l : LT} (h : MD I m l) (e : I' m 23 = I m 23) (e1 : ∀ q, m < q → q < m + 665 → I' q = I q) (hW : WT l) : MD I' m l := by
  have hn := hW.1
  have hc := hW.2.2.2.2.2.1
  refine ⟨?_, ?_, ?_, ?_, ?_, ?_⟩
  · rw [e1 (m + 4) (by omega) (by omega)]; exact h.1
  · intro p hp; rw [e1 (m + 6) (by omega) (by omega)]; exact h.2.1 p hp
  · intro p q hp hq; rw [e1 (m + 25 + p) (by omega) (by omega)]; exact h.2.2.1 p q hp hq
  · intro c hc; rw [e1 (m + 8) (by omega) (by omega), e1 (m + 10) (by omega) (by omega), e1 (m + 12) (by omega) (by omega)]; exact h.2.2.2.1 c hc
  · rw [e]; exact h.2.2.2.2.1
  · intro k c hk
    have hk2 : k < (Lc l).length := (List.getElem?_eq_some_iff.mp hk).1
    rw [e1 (m + 45 + k) (by omega) (by omega)]; exact h.2.2.2.2.2 k c hk
/-- only the stack, what is tried and its copy change -/
def FC (m : Nat) (I I' : jx_I) : Prop := ∀ q, q ≠ m + 1286 → (q < m + 1346 ∨ m + 1366 ≤ q) → I' q = I q
theorem FC_refl {m : Nat} {I : jx_I} : FC m I I := fun _ _ _ => rfl
theorem FC_trans {m : Nat} {I I' I2 : jx_I} (h : FC m I I') (h2 : FC m I' I2) : FC m I I2 := fun q a b => (h2 q a b).trans (h q a b)
theorem FC_u {m a k : Nat} {I I' : jx_I} {v : Int32} (h : FC m I I') (h1 : a = m + 1286 ∨ (m + 1346 ≤ a ∧ a < m + 1366)) : FC m I (jx_u I' a k v) := fun q h4 h5 => by
  rw [jx_u_r I' k v (by omega)]; exact h q h4 h5
theorem FC_fr {m lo hi : Nat} {I I' I2 : jx_I} (h : FC m I I') (h2 : FR lo hi I' I2) (h1 : (m + 1286 ≤ lo ∧ hi ≤ m + 1287) ∨ (m + 1346 ≤ lo ∧ hi ≤ m + 1366)) : FC m I I2 := fun q h4 h5 => (h2 q (by omega)).trans (h q h4 h5)
theorem MD_c {I I' : jx_I} {m : Nat} {l : LT} (h : MD I m l) (hf : FC m I I') (hW : WT l) : MD I' m l := MD_of h (by rw [hf m (by omega) (by omega)]) (fun q h1 h2 => hf q (by omega) (by omega)) hW
/-- what is tried: a row, griefs, depths -/
def MN (I : jx_I) (m : Nat) (l : LT) (L : List Nat) (g d : GT) : Prop := ML I m 46 (m + 1364) L ∧ MH I (m + 1347) (Ln l) (Lm l) g ∧ MH I (m + 1356) (Ln l) (Lm l) d
def GDn (n m : Nat) (g d : GT) : Prop := ∀ p c, p < n → c < m → (0 ≤ g p c ∧ g p c ≤ 20) ∧ (0 ≤ d p c ∧ d p c ≤ 20)
/-- GrievingCamelsModel.thrown -/
theorem cz_201 {V : jx_V} (hV : V.1.stackTraces = false) {X : jx_X} {R : jx_R} {I : jx_I} {a0 : Nat} 
    (hM : MX X R a0)
    {QE : String → jx_I → Prop} : jc V 1 201 (0, 0) [.ref a0] X I R (fun rv I' => rv = some (jy ((I a0 0).toInt)) ∧ I' = I) QE := by
  refine wm_201 hV   ?_
  unfold wz_201
  refine ⟨s_M_0 hM, ?_⟩
  exact ⟨rfl, rfl⟩
/-- GrievingCamelsModel.in -/
theorem cz_203 {V : jx_V} (hV : V.1.stackTraces = false) {X : jx_X} {R : jx_R} {I : jx_I} {a0 : Int} {a1 : Int} {a2 : Int} 
    (r_a0 : -2147483648 ≤ a0 ∧ a0 < 2147483648) (r_a1 : -2147483648 ≤ a1 ∧ a1 < 2147483648) (r_a2 : -2147483648 ≤ a2 ∧ a2 < 2147483648)
    {QE : String → jx_I → Prop} : jc V 1 203 (0, 0) [jy a0, jy a1, jy a2] X I R (fun rv I' => rv = some (jy (if a1 ≤ a0 ∧ a0 ≤ a2 then 1 else 0)) ∧ I' = I) QE := by
  refine wm_203 hV (by omega) (by omega) (by omega)  ?_
  unfold wz_203
  refine ⟨fun hq1 => ?_, fun hq1 => ?_⟩
  · exact ⟨by rw [if_neg (by omega)], rfl⟩
  · refine ⟨fun hq2 => ?_, fun hq2 => ?_⟩
    · exact ⟨by rw [if_neg (by omega)], rfl⟩
    · exact ⟨by rw [if_pos (by omega)], rfl⟩
/-- GrievingCamelsModel.less -/
theorem cz_204 {V : jx_V} (hV : V.1.stackTraces = false) {X : jx_X} {R : jx_R} {I : jx_I} {a0 : Int} {a1 : Int} 
    (r_a0 : -2147483648 ≤ a0 ∧ a0 < 2147483648) (r_a1 : -2147483648 ≤ a1 ∧ a1 < 2147483648)
    {QE : String → jx_I → Prop} : jc V 1 204 (0, 0) [jy a0, jy a1] X I R (fun rv I' => rv = some (jy (min a0 a1)) ∧ I' = I) QE := by
  refine wm_204 hV (by omega) (by omega)  ?_
  unfold wz_204
  refine ⟨fun hq1 => ?_, fun hq1 => ?_⟩
  · exact ⟨by rw [show min a0 a1 = a1 by omega], rfl⟩
  · exact ⟨by rw [show min a0 a1 = a0 by omega], rfl⟩
/-- GrievingCamelsModel.ones -/
theorem cz_272 {V : jx_V} (hV : V.1.stackTraces = false) {X : jx_X} {R : jx_R} {I : jx_I} {a0 : Int} {B : Nat}
    (h0 : a0 = (B : Int)) (hB : B < 2147483648)
    {QE : String → jx_I → Prop} : jc V 1 272 (0, 0) [jy a0] X I R (fun rv I' => rv = some (jy (pc B : Nat)) ∧ I' = I) QE := by
  refine wm_272 hV (by omega)  (fun J4 hJJ => ?_)
  have hJ4 := hJJ
  unfold wz_272
  have L4 : ∀ (n4 : Nat) (l1 : Int) (l2 : Int) (K : jx_I), n4 = ((10 : Int) - l2).toNat → (∃ i : Nat, l2 = i ∧ i ≤ 10 ∧ l1 = ((bl B i).length : Int) ∧ K = I) → J4 l1 l2 K := by
    intro n4
    induction n4 using Nat.strongRecOn with
    | ind n4 ih4 =>
    intro l1 l2 K hn4 hI4
    obtain ⟨i, rfl, hi, hl1, rfl⟩ := hI4
    refine hJ4 _ _ _ ?_
    unfold wz_272_4
    refine ⟨by omega, ?_⟩
    refine ⟨fun hq1 => ?_, fun hq1 => ?_⟩
    · exact ⟨by rw [hl1, show i = 10 by omega]; rfl, rfl⟩
    · have hbit := jz_bit (B := B) (k := i) hB (by omega)
      simp only [h0, hbit]
      have h01 := bN_01 B i
      exact ih4 _ (by omega) _ _ _ rfl (⟨i + 1, by omega, by omega, by
        rcases h01 with h | h
        · rw [bl_0 h, h]; omega
        · rw [bl_1 (by omega), h, List.length_append]; simp; omega, rfl⟩)
  exact L4 _ _ _ _ rfl (⟨0, rfl, by omega, rfl, rfl⟩)
/-- GrievingCamelsModel.bad -/
theorem cz_202 {V : jx_V} (hV : V.1.stackTraces = false) {X : jx_X} {R : jx_R} {I : jx_I} {a0 : Nat} {a1 : Int} {a2 : Int} {a3 : Int} 
    (hM : MX X R a0) (h1 : a1 = 0 ∨ a1 = 1) (h2 : 1 ≤ a2 ∧ a2 ≤ 3) (h3 : 0 ≤ a3 ∧ a3 < 4)
    {QE : String → jx_I → Prop} : jc V 1 202 (0, 0) [.ref a0, jy a1, jy a2, jy a3] X I R (fun rv I' => rv = some (jy (if (I a0 0).toInt = 0 ∧ a1 = 0 then 0 else 1)) ∧ (if (I a0 0).toInt = 0 ∧ a1 = 1 then I' = jx_u (jx_u I a0 0 (Int32.ofInt a2)) (a0 + 2) a3.toNat (Int32.ofInt ((I (a0 + 2) a3.toNat).toInt + 1)) else I' = I)) QE := by
  refine wm_202 hV (by omega) (by omega) (by omega)  (fun J26 hJJ => ?_)
  have hJ26 := hJJ
  unfold wz_202
  refine ⟨fun hq1 => ?_, fun hq1 => ?_⟩
  · refine ⟨s_M_0 hM, ?_⟩
    refine ⟨fun hq2 => ?_, fun hq2 => ?_⟩
    · exact ⟨by rw [if_pos ⟨hq2, hq1⟩], by rw [if_neg (by omega)]⟩
    · exact ⟨by rw [if_neg (by omega)], by rw [if_neg (by omega)]⟩
  · refine ⟨s_M_0 hM, ?_⟩
    refine ⟨fun hq3 => ?_, fun hq3 => ?_⟩
    · refine ⟨fun hq4 => ?_, fun hq4 => ?_⟩
      · omega
      · exact ⟨by rw [if_neg (by omega)], by rw [if_neg (by omega)]⟩
    · intro I3 e_I3; subst e_I3
      have e3 : (jx_u I a0 0 (Int32.ofInt a2) (a0 + 2) a3.toNat) = I (a0 + 2) a3.toNat := jx_u_a _ _ _ _ (by omega)
      try simp only [e3]
      refine ⟨_, r_M_9 hM, _, ⟨s_M_2 hM, by decide⟩, by omega, by omega, ?_⟩
      intro I10 e_I10; subst e_I10
      refine hJ26 _ ?_
      unfold wz_202_26
      refine ⟨s_M_0 hM, ?_⟩
      refine ⟨fun hq5 => ?_, fun hq5 => ?_⟩
      · exfalso; rw [jx_u_a _ _ _ _ (by omega), jx_u_s, jy_toInt (by omega)] at hq5; omega
      · exact ⟨by rw [if_neg (by omega)], by rw [if_pos (by omega), e3]⟩
/-- GrievingCamelsModel.isPlace -/
theorem cz_232 {V : jx_V} (hV : V.1.stackTraces = false) {X : jx_X} {R : jx_R} {I : jx_I} {a0 : Nat} {a1 : Int} {l : LT}
    (hM : MX X R a0) (hD : MD I a0 l) (hW : WT l) (r_a1 : -2147483648 ≤ a1 ∧ a1 < 2147483648)
    {QE : String → jx_I → Prop} : jc V 2 232 (0, 0) [.ref a0, jy a1] X I R (fun rv I' => rv = some (jy (if 0 ≤ a1 ∧ a1 < (Ln l : Nat) then 1 else 0)) ∧ I' = I) QE := by
  have hW0 := hW.1
  refine wm_232 hV (by omega)  ?_
  have hn := hW.1
  have hv := hD.1.1
  unfold wz_232
  refine ⟨s_M_0 hM, _, r_M_11 hM, _, ⟨s_M_4 hM, by decide⟩, ?_⟩
  try simp only [show (0 : Int).toNat = 0 from rfl, hv]
  refine ⟨by omega, ?_⟩
  refine ⟨_, cz_203 hV (by omega) (by omega) (by omega), ?_⟩
  rintro _ I9 ⟨rfl, e9⟩; replace e9 := e9.symm; subst e9
  refine ⟨_, rfl, ?_⟩
  refine ⟨by split <;> simp, ?_⟩
  refine ⟨?_, rfl⟩
  by_cases h : 0 ≤ a1 ∧ a1 < (Ln l : Nat)
  · rw [if_pos h, if_pos (by omega)]
  · rw [if_neg h, if_neg (by omega)]
/-- GrievingCamelsModel.isCamel -/
theorem cz_233 {V : jx_V} (hV : V.1.stackTraces = false) {X : jx_X} {R : jx_R} {I : jx_I} {a0 : Nat} {a1 : Int} {l : LT}
    (hM : MX X R a0) (hD : MD I a0 l) (hW : WT l) (r_a1 : -2147483648 ≤ a1 ∧ a1 < 2147483648)
    {QE : String → jx_I → Prop} : jc V 2 233 (0, 0) [.ref a0, jy a1] X I R (fun rv I' => rv = some (jy (if 0 ≤ a1 ∧ a1 < (Lm l : Nat) then 1 else 0)) ∧ I' = I) QE := by
  have hW0 := hW.1
  refine wm_233 hV (by omega)  ?_
  have hn := hW.1
  have hv := hD.1.2
  unfold wz_233
  refine ⟨s_M_0 hM, _, r_M_11 hM, _, ⟨s_M_4 hM, by decide⟩, ?_⟩
  try simp only [show (1 : Int).toNat = 1 from rfl, hv]
  refine ⟨by omega, ?_⟩
  refine ⟨_, cz_203 hV (by omega) (by omega) (by omega), ?_⟩
  rintro _ I9 ⟨rfl, e9⟩; replace e9 := e9.symm; subst e9
  refine ⟨_, rfl, ?_⟩
  refine ⟨by split <;> simp, ?_⟩
  refine ⟨?_, rfl⟩
  by_cases h : 0 ≤ a1 ∧ a1 < (Lm l : Nat)
  · rw [if_pos h, if_pos (by omega)]
  · rw [if_neg h, if_neg (by omega)]
/-- GrievingCamelsModel.areCamels -/
theorem cz_250 {V : jx_V} (hV : V.1.stackTraces = false) {X : jx_X} {R : jx_R} {I : jx_I} {a0 : Nat} {a1 : Int} {l : LT}
    (hM : MX X R a0) (hD : MD I a0 l) (hW : WT l) (r_a1 : -2147483648 ≤ a1 ∧ a1 < 2147483648)
    {QE : String → jx_I → Prop} : jc V 2 250 (0, 0) [.ref a0, jy a1] X I R (fun rv I' => rv = some (jy (if 0 ≤ a1 ∧ a1 < ((2 ^ Lm l : Nat) : Int) then 1 else 0)) ∧ I' = I) QE := by
  have hW0 := hW.1
  refine wm_250 hV (by omega)  ?_
  have hn := hW.1
  have hv := hD.1.2
  have h1 := jz_1sh (k := Lm l) (by omega)
  have h2 : 2 ^ Lm l ≤ 2 ^ 8 := Nat.pow_le_pow_right (by omega) hn.2
  have h3 : 0 < 2 ^ Lm l := Nat.two_pow_pos _
  unfold wz_250
  refine ⟨s_M_0 hM, _, r_M_11 hM, _, ⟨s_M_4 hM, by decide⟩, ?_⟩
  try simp only [show (1 : Int).toNat = 1 from rfl, hv, h1]
  refine ⟨by omega, ?_⟩
  refine ⟨_, cz_203 hV (by omega) (by omega) (by omega), ?_⟩
  rintro _ I9 ⟨rfl, e9⟩; replace e9 := e9.symm; subst e9
  refine ⟨_, rfl, ?_⟩
  refine ⟨by split <;> simp, ?_⟩
  refine ⟨?_, rfl⟩
  by_cases h : 0 ≤ a1 ∧ a1 < ((2 ^ Lm l : Nat) : Int)
  · rw [if_pos h, if_pos (by omega)]
  · rw [if_neg h, if_neg (by omega)]
/-- GrievingCamelsModel.isInRow -/
theorem cz_252 {V : jx_V} (hV : V.1.stackTraces = false) {X : jx_X} {R : jx_R} {I : jx_I} {a0 : Nat} {a1 : Int} {x : Nat} {L : List Nat}
    (hM : MX X R a0) (hN : ML I a0 46 (a0 + 1364) L) (hL8 : L.length ≤ 8) (h1 : a1 = (x : Int)) (hx : x < 2147483648)
    {QE : String → jx_I → Prop} : jc V 1 252 (0, 0) [.ref a0, jy a1] X I R (fun rv I' => rv = some (jy (if x ∈ L then 1 else 0)) ∧ I' = I) QE := by
  refine wm_252 hV (by omega)  (fun J2 hJJ => ?_)
  have hJ2 := hJJ
  have hm := hN.1
  unfold wz_252
  have L2 : ∀ (n2 : Nat) (l2 : Int) (K : jx_I), n2 = ((L.length : Int) - l2).toNat → (∃ i : Nat, l2 = i ∧ i ≤ L.length ∧ x ∉ L.take i ∧ K = I) → J2 l2 K := by
    intro n2
    induction n2 using Nat.strongRecOn with
    | ind n2 ih2 =>
    intro l2 K hn2 hI2
    obtain ⟨i, rfl, hi, hx2, rfl⟩ := hI2
    refine hJ2 _ _ ?_
    unfold wz_252_2
    refine ⟨s_M_0 hM, by omega, ?_⟩
    refine ⟨fun hq1 => ?_, fun hq1 => ?_⟩
    · refine ⟨?_, rfl⟩
      rw [if_neg]
      rwa [List.take_of_length_le (by omega)] at hx2
    · refine ⟨_, r_M_44 hM, _, ⟨s_M_1364 hM, by decide⟩, by omega, ?_⟩
      refine ⟨fun hq2 => ?_, fun hq2 => ?_⟩
      · obtain ⟨y, hy, hv⟩ := ML_get hN (i := i) (by omega)
        rw [Int.toNat_natCast, hv, h1] at hq2
        exact ih2 _ (by omega) _ _ rfl (⟨i + 1, by omega, by omega, by rw [ls_last hy, List.mem_append]; simp; exact ⟨hx2, by omega⟩, rfl⟩)
      · obtain ⟨y, hy, hv⟩ := ML_get hN (i := i) (by omega)
        rw [Int.toNat_natCast, hv, h1] at hq2
        refine ⟨?_, rfl⟩
        rw [if_pos]
        have : y = x := by omega
        rw [← this]
        exact List.mem_of_getElem? hy
  exact L2 _ _ _ rfl (⟨0, rfl, by omega, by simp, rfl⟩)
theorem vl_step {gs : List Int} {x : Int} (h0 : 0 ≤ x) : (vl (gs ++ [x]) 0 = if x = 0 then vl gs 0 else max (vl gs 0) x) ∧ (vl (gs ++ [x]) 1 = if x = 0 then vl gs 1 else vl gs 1 + x) ∧ (vl (gs ++ [x]) 2 = if x = 0 then vl gs 2 else if vl gs 4 = 0 then x else vl gs 2) ∧ (vl (gs ++ [x]) 3 = if x = 0 then vl gs 3 else x) ∧ (vl (gs ++ [x]) 4 = if x = 0 then vl gs 4 else vl gs 4 + 1) := by
  by_cases h : x = 0
  · simp only [if_pos h]
    exact ⟨vl_skip (by omega) 0, vl_skip (by omega) 1, vl_skip (by omega) 2, vl_skip (by omega) 3, vl_skip (by omega) 4⟩
  · simp only [if_neg h]
    exact ⟨vl_0 (by omega), vl_1 (by omega), vl_2 (by omega), vl_3 (by omega), vl_4 (by omega)⟩
/-- GrievingCamelsModel.valueOf -/
theorem cz_245 {V : jx_V} (hV : V.1.stackTraces = false) {X : jx_X} {R : jx_R} {I : jx_I} {a0 : Nat} {a1 : Int} {a2 : Int} {l : LT} {L : List Nat} {g d : GT} {p k : Nat}
    (hM : MX X R a0) (hD : MD I a0 l) (hW : WT l) (hN : MN I a0 l L g d) (hG : GDn (Ln l) (Lm l) g d) (hLm : ∀ c ∈ L, c < Lm l) (hL8 : L.length ≤ 8) (h1 : a1 = (p : Int)) (hp : p < Ln l) (h2 : a2 = (k : Int)) (hk : k < 5)
    {QE : String → jx_I → Prop} : jc V 1 245 (0, 0) [.ref a0, jy a1, jy a2] X I R (fun rv I' => rv = some (jy (vl (L.map (g p)) k)) ∧ I' = I) QE := by
  have hW0 := hW.1
  refine wm_245 hV (by omega) (by omega)  (fun J17 J62 J82 J91 hJJ => ?_)
  obtain ⟨hJ17, hJ62, hJ82, hJ91⟩ := hJJ
  have hn := hW.1
  have hm := hN.1.1
  unfold wz_245
  have L17 : ∀ (n17 : Nat) (l3 : Int) (l4 : Int) (l5 : Int) (l6 : Int) (l7 : Int) (l8 : Int) (K : jx_I), n17 = ((L.length : Int) - l8).toNat → (∃ i : Nat, l8 = i ∧ i ≤ L.length ∧ l3 = vl ((L.take i).map (g p)) 0 ∧ l4 = vl ((L.take i).map (g p)) 1 ∧ l5 = vl ((L.take i).map (g p)) 2 ∧ l6 = vl ((L.take i).map (g p)) 3 ∧ l7 = vl ((L.take i).map (g p)) 4 ∧ K = I) → J17 l3 l4 l5 l6 l7 l8 K := by
    intro n17
    induction n17 using Nat.strongRecOn with
    | ind n17 ih17 =>
    intro l3 l4 l5 l6 l7 l8 K hn17 hI17
    obtain ⟨i, rfl, hi, rfl, rfl, rfl, rfl, rfl, rfl⟩ := hI17
    refine hJ17 _ _ _ _ _ _ _ ?_
    unfold wz_245_17
    refine ⟨s_M_0 hM, by omega, ?_⟩
    refine ⟨fun hq1 => ?_, fun hq1 => ?_⟩
    · rw [List.take_of_length_le (by omega)]
      refine ⟨fun hq2 => ?_, fun hq2 => ?_⟩
      · refine ⟨fun hq3 => ?_, fun hq3 => ?_⟩
        · refine ⟨fun hq4 => ?_, fun hq4 => ?_⟩
          · refine ⟨fun hq5 => ?_, fun hq5 => ?_⟩
            · exact ⟨by rw [show k = 4 by omega], rfl⟩
            · exact ⟨by rw [show k = 3 by omega], rfl⟩
          · exact ⟨by rw [show k = 2 by omega], rfl⟩
        · exact ⟨by rw [show k = 1 by omega], rfl⟩
      · exact ⟨by rw [show k = 0 by omega], rfl⟩
    · obtain ⟨y, hy, hy2⟩ := ML_get hN.1 (i := i) (by omega)
      have hym : y ∈ L := List.mem_of_getElem? hy
      have hy8 := hLm y hym
      have hgv := hN.2.1 p y hp hy8
      have hgr := (hG p y hp hy8).1
      have hls : (L.take (i + 1)).map (g p) = (L.take i).map (g p) ++ [g p y] := by rw [ls_last hy, List.map_append]; rfl
      have vs := vl_step (gs := (L.take i).map (g p)) hgr.1
      have hr5 := vl_rng ((L.take i).map (g p)) (fun x hx => by
        obtain ⟨c, hc1, rfl⟩ := List.mem_map.mp hx
        have hcL := List.mem_of_mem_take hc1
        exact (hG p c hp (hLm c hcL)).1)
      have hr6 := vl_many0 ((L.take i).map (g p))
      have hr7 : ((L.take i).map (g p)).length ≤ 8 := by simp; omega
      have hpp : a1.toNat = p := by omega
      refine ⟨_, r_M_42 hM, _, r_M_44 hM, _, ⟨s_M_1364 hM, by decide⟩, ?_⟩
      try simp only [Int.toNat_natCast, hy2]
      refine ⟨by omega, _, ⟨s_M_1346 hM, by decide⟩, ?_⟩
      try simp only [Int.toNat_natCast]
      refine ⟨by omega, _, rr_M_1346 hM (by omega), _, ⟨sr_M_1346 hM (by omega), by decide⟩, ?_⟩
      try simp only [Int.toNat_natCast, hpp, hgv]
      refine ⟨by omega, ?_⟩
      refine ⟨fun hq6 => ?_, fun hq6 => ?_⟩
      · simp only [if_neg hq6] at vs
        refine ⟨by omega, ?_⟩
        refine ⟨fun hq7 => ?_, fun hq7 => ?_⟩
        · refine hJ62 _ _ _ _ _ _ _ ?_
          unfold wz_245_62
          refine ⟨by omega, ?_⟩
          refine ⟨fun hq8 => ?_, fun hq8 => ?_⟩
          · refine hJ82 _ _ _ _ _ _ _ ?_
            unfold wz_245_82
            refine hJ91 _ _ _ _ _ _ _ ?_
            unfold wz_245_91
            exact ih17 _ (by omega) _ _ _ _ _ _ _ rfl (⟨i + 1, by omega, by omega, by rw [hls, vs.1]; omega, by rw [hls, vs.2.1], by rw [hls, vs.2.2.1, if_neg hq8], by rw [hls, vs.2.2.2.1], by rw [hls, vs.2.2.2.2], rfl⟩)
          · refine hJ82 _ _ _ _ _ _ _ ?_
            unfold wz_245_82
            refine hJ91 _ _ _ _ _ _ _ ?_
            unfold wz_245_91
            exact ih17 _ (by omega) _ _ _ _ _ _ _ rfl (⟨i + 1, by omega, by omega, by rw [hls, vs.1]; omega, by rw [hls, vs.2.1], by rw [hls, vs.2.2.1, if_pos hq8], by rw [hls, vs.2.2.2.1], by rw [hls, vs.2.2.2.2], rfl⟩)
        · refine hJ62 _ _ _ _ _ _ _ ?_
          unfold wz_245_62
          refine ⟨by omega, ?_⟩
          refine ⟨fun hq9 => ?_, fun hq9 => ?_⟩
          · refine hJ82 _ _ _ _ _ _ _ ?_
            unfold wz_245_82
            refine hJ91 _ _ _ _ _ _ _ ?_
            unfold wz_245_91
            exact ih17 _ (by omega) _ _ _ _ _ _ _ rfl (⟨i + 1, by omega, by omega, by rw [hls, vs.1]; omega, by rw [hls, vs.2.1], by rw [hls, vs.2.2.1, if_neg hq9], by rw [hls, vs.2.2.2.1], by rw [hls, vs.2.2.2.2], rfl⟩)
          · refine hJ82 _ _ _ _ _ _ _ ?_
            unfold wz_245_82
            refine hJ91 _ _ _ _ _ _ _ ?_
            unfold wz_245_91
            exact ih17 _ (by omega) _ _ _ _ _ _ _ rfl (⟨i + 1, by omega, by omega, by rw [hls, vs.1]; omega, by rw [hls, vs.2.1], by rw [hls, vs.2.2.1, if_pos hq9], by rw [hls, vs.2.2.2.1], by rw [hls, vs.2.2.2.2], rfl⟩)
      · simp only [if_pos hq6] at vs
        refine hJ91 _ _ _ _ _ _ _ ?_
        unfold wz_245_91
        exact ih17 _ (by omega) _ _ _ _ _ _ _ rfl (⟨i + 1, by omega, by omega, by rw [hls, vs.1], by rw [hls, vs.2.1], by rw [hls, vs.2.2.1], by rw [hls, vs.2.2.2.1], by rw [hls, vs.2.2.2.2], rfl⟩)
  exact L17 _ _ _ _ _ _ _ _ rfl (⟨0, rfl, by omega, (vl_nil 0).symm, (vl_nil 1).symm, (vl_nil 2).symm, (vl_nil 3).symm, (vl_nil 4).symm, rfl⟩)
/-- GrievingCamelsModel.byLaw -/
theorem cz_247 {V : jx_V} (hV : V.1.stackTraces = false) {X : jx_X} {R : jx_R} {I : jx_I} {a0 : Nat} {a1 : Int} {l : LT} {L : List Nat} {g d : GT} {p : Nat} {v : Nat → Int}
    (hM : MX X R a0) (hD : MD I a0 l) (hW : WT l) (hN : MN I a0 l L g d) (hG : GDn (Ln l) (Lm l) g d) (hLm : ∀ c ∈ L, c < Lm l) (hL8 : L.length ≤ 8) (h1 : a1 = (p : Int)) (hp : p < Ln l) (hv : v = vl (L.map (g p)))
    {QE : String → jx_I → Prop} : jc V 2 247 (0, 0) [.ref a0, jy a1] X I R (fun rv I' => rv = some (jy (rk v (Lc l))) ∧ (-2147483648 ≤ rk v (Lc l) ∧ rk v (Lc l) < 2147483648) ∧ FR (a0 + 1286) (a0 + 1287) I I') QE := by
  have hW0 := hW.1
  refine wm_247 hV (by omega)  (fun J4 J64 J144 J145 hJJ => ?_)
  obtain ⟨hJ4, hJ64, hJ144, hJ145⟩ := hJJ
  have hn := hW.1
  have hWL := hW.2.2.2.2.2
  have hcl := hWL.1
  unfold wz_247
  have L4 : ∀ (n4 : Nat) (l2 : Int) (l3 : Int) (K : jx_I), n4 = (((Lc l).length : Int) - l3).toNat → (∃ (i : Nat) (st : List Int), l3 = i ∧ i ≤ (Lc l).length ∧ ((Lc l).take i).foldl (rkS v) [] = st ∧ l2 = st.length ∧ SK K (a0 + 1286) st ∧ FR (a0 + 1286) (a0 + 1287) I K) → J4 l2 l3 K := by
    intro n4
    induction n4 using Nat.strongRecOn with
    | ind n4 ih4 =>
    intro l2 l3 K hn4 hI4
    obtain ⟨i, st, rfl, hi, hst, rfl, hK, hF⟩ := hI4
    have hd := rk_len hWL v i hi
    rw [hst] at hd
    have hNK : MN K a0 l L g d := ⟨ML_of hN.1 (by rw [hF a0 (by omega)]) (hF _ (by omega)), MH_of hN.2.1 (fun c hc => hF _ (by omega)), MH_of hN.2.2 (fun c hc => hF _ (by omega))⟩
    have hDK : MD K a0 l := MD_of hD (by rw [hF a0 (by omega)]) (fun q h1 h2 => hF q (by omega)) hW
    have hm2 := hDK.2.2.2.2.1
    refine hJ4 _ _ _ ?_
    unfold wz_247_4
    refine ⟨s_M_0 hM, by omega, ?_⟩
    refine ⟨fun hq1 => ?_, fun hq1 => ?_⟩
    · refine ⟨_, r_M_28 hM, _, ⟨s_M_1286 hM, by decide⟩, by omega, ?_⟩
      rw [List.take_of_length_le (by omega)] at hst hd
      have h9 := hWL.2.1
      have hbot := SK_bot hK (by omega)
      have hbr := jy_rng (K (a0 + 1286) 0)
      rw [hbot, ← hst] at hbr
      refine ⟨?_, hbr, hF⟩
      rw [show (0 : Int).toNat = 0 from rfl, hbot, ← hst]
      rfl
    · have hi2 : i < (Lc l).length := by omega
      have hc := List.getElem?_eq_getElem (l := Lc l) (i := i) hi2
      generalize (Lc l)[i] = c at hc
      obtain ⟨w1, w2, w3⟩ := hDK.2.2.2.2.2 i c hc
      obtain ⟨hc0, hc1, hc2, hc3⟩ := hWL.2.2 i c hc
      have hs2 : ((Lc l).take (i + 1)).foldl (rkS v) [] = rkS v st c := by rw [ls_last hc, List.foldl_append, hst]; rfl
      refine ⟨_, r_M_26 hM, _, ⟨s_M_44 hM, by decide⟩, by omega, _, rr_M_44 hM (by omega), _, ⟨sr_M_44 hM (by omega), by decide⟩, ?_⟩
      try simp only [Int.toNat_natCast, Int.toNat_zero]
      refine ⟨by omega, ?_⟩
      refine ⟨fun hq2 => ?_, fun hq2 => ?_⟩
      · have hc5 : 105 ≤ c := by
          rcases Int.lt_or_le c 100 with h | h
          · have := (w1 h).1; omega
          · rcases Int.lt_or_le c 105 with h2 | h2
            · have := (w2 h h2).1; omega
            · exact h2
        have w3 := w3 hc5
        have hl2 : 2 ≤ st.length := by have := hc3 hc5; omega
        match st, hl2 with
        | y :: x :: r, _ =>
        have hl9 : (y :: x :: r).length = r.length + 2 := rfl
        obtain ⟨hp1, hp2⟩ := SK_pop hK
        obtain ⟨hp3, hp4⟩ := SK_pop hp1
        have hl8 : (x :: r).length = r.length + 1 := rfl
        rw [hl8] at hp2
        rw [hl9] at hd ⊢
        have hi3 : (((r.length + 2 : Nat) : Int) + -1 - 1).toNat = r.length := by omega
        have hi4 : (((r.length + 2 : Nat) : Int) + -1).toNat = r.length + 1 := by omega
        have hfin : ∀ z : Int, w32 z = rkop c x y → SK (jx_u K (a0 + 1286) r.length (Int32.ofInt z)) (a0 + 1286) (rkS v (y :: x :: r) c) := by
          intro z hz
          have e : rkS v (y :: x :: r) c = rkop c x y :: r := by unfold rkS; rw [if_neg (by omega), if_neg (by omega)]
          rw [e]
          refine SK_push hp3 ?_ (fun k hk => jx_u_k _ _ _ _ (by omega))
          rw [jx_u_s]
          exact hz
        have hlen : (rkS v (y :: x :: r) c).length = r.length + 1 := by unfold rkS; rw [if_neg (by omega), if_neg (by omega)]; rfl
        refine ⟨_, r_M_28 hM, _, ⟨s_M_1286 hM, by decide⟩, by omega, by omega, by omega, _, rr_M_44 hM (by omega), _, ⟨sr_M_44 hM (by omega), by decide⟩, ?_⟩
        try simp only [Int.toNat_natCast, Int.toNat_zero, w3]
        refine ⟨by omega, ?_⟩
        refine ⟨fun hq3 => ?_, fun hq3 => ?_⟩
        · refine ⟨by omega, _, rr_M_44 hM (by omega), _, ⟨sr_M_44 hM (by omega), by decide⟩, ?_⟩
          try simp only [Int.toNat_natCast, Int.toNat_zero, w3]
          refine ⟨by omega, ?_⟩
          refine ⟨fun hq4 => ?_, fun hq4 => ?_⟩
          · refine hJ144 _ _ _ _ _ _ ?_
            unfold wz_247_144
            refine ⟨_, ⟨s_M_1286 hM, by decide⟩, by omega, ?_⟩
            intro I67 e_I67; subst e_I67
            refine hJ145 _ _ _ ?_
            unfold wz_247_145
            simp only [hi3, hi4, hp2, hp4]
            exact ih4 _ (by omega) _ _ _ rfl (⟨i + 1, _, by omega, by omega, hs2, by rw [hlen]; omega, hfin _ (by unfold rkop; rw [if_neg (by omega), if_neg (by omega)]), FR_u hF (by omega) (by omega)⟩)
          · refine hJ144 _ _ _ _ _ _ ?_
            unfold wz_247_144
            refine ⟨_, ⟨s_M_1286 hM, by decide⟩, by omega, ?_⟩
            intro I67 e_I67; subst e_I67
            refine hJ145 _ _ _ ?_
            unfold wz_247_145
            simp only [hi3, hi4, hp2, hp4]
            exact ih4 _ (by omega) _ _ _ rfl (⟨i + 1, _, by omega, by omega, hs2, by rw [hlen]; omega, hfin _ (by unfold rkop; rw [if_neg (by omega), if_pos (by omega)]), FR_u hF (by omega) (by omega)⟩)
        · refine hJ144 _ _ _ _ _ _ ?_
          unfold wz_247_144
          refine ⟨_, ⟨s_M_1286 hM, by decide⟩, by omega, ?_⟩
          intro I67 e_I67; subst e_I67
          refine hJ145 _ _ _ ?_
          unfold wz_247_145
          simp only [hi3, hi4, hp2, hp4]
          exact ih4 _ (by omega) _ _ _ rfl (⟨i + 1, _, by omega, by omega, hs2, by rw [hlen]; omega, hfin _ (by unfold rkop; rw [if_pos (by omega)]), FR_u hF (by omega) (by omega)⟩)
      · have hc5 : c < 105 := by
          rcases Int.lt_or_le c 105 with h2 | h2
          · exact h2
          · have := w3 h2; omega
        have hcd := hc2 hc5
        refine ⟨_, r_M_28 hM, by omega, _, rr_M_44 hM (by omega), _, ⟨sr_M_44 hM (by omega), by decide⟩, ?_⟩
        try simp only [Int.toNat_natCast, Int.toNat_zero]
        refine ⟨by omega, ?_⟩
        refine ⟨fun hq5 => ?_, fun hq5 => ?_⟩
        · have hc6 : 100 ≤ c := by
            rcases Int.lt_or_le c 100 with h | h
            · have := (w1 h).1; omega
            · exact h
          have w2 := w2 hc6 hc5
          refine ⟨by omega, _, rr_M_44 hM (by omega), _, ⟨sr_M_44 hM (by omega), by decide⟩, ?_⟩
          try simp only [show (1 : Int).toNat = 1 from rfl, w2.2]
          refine ⟨by omega, ?_⟩
          refine ⟨_, cz_245 (k := (c - 100).toNat) hV hM hDK hW hNK hG hLm hL8 h1 hp (by omega) (by omega), ?_⟩
          rintro _ I52 ⟨rfl, e9⟩; replace e9 := e9.symm; subst e9
          refine ⟨_, rfl, ?_⟩
          refine hJ64 _ _ _ _ _ _ ?_
          unfold wz_247_64
          refine ⟨_, ⟨s_M_1286 hM, by decide⟩, by omega, ?_⟩
          intro I63 e_I63; subst e_I63
          refine hJ145 _ _ _ ?_
          unfold wz_247_145
          exact ih4 _ (by omega) _ _ _ rfl (⟨i + 1, _, by omega, by omega, hs2, by unfold rkS; rw [if_neg (by omega), if_pos (by omega)]; simp, by
            unfold rkS
            rw [if_neg (by omega), if_pos (by omega)]
            refine SK_push hK ?_ (fun k hk => jx_u_k _ _ _ _ (by omega))
            rw [Int.toNat_natCast, jx_u_s];
            rw [hv]
            have h5 : ((L.map (g p)).length : Int) ≤ 8 := by simp; omega
            have h6 := vl_many0 (L.map (g p))
            have h7 := vl_rng (L.map (g p)) (fun x hx => by
              obtain ⟨c, hc1, rfl⟩ := List.mem_map.mp hx
              exact (hG p c hp (hLm c hc1)).1)
            apply jy_toInt
            rcases (by omega : (c - 100).toNat = 0 ∨ (c - 100).toNat = 1 ∨ (c - 100).toNat = 2 ∨ (c - 100).toNat = 3 ∨ (c - 100).toNat = 4) with e | e | e | e | e <;> rw [e] <;> omega, FR_u hF (by omega) (by omega)⟩)
        · have hc6 : c < 100 := by
            rcases Int.lt_or_le c 100 with h | h
            · exact h
            · have := (w2 h hc5).1; omega
          have w1 := w1 hc6
          refine ⟨by omega, _, rr_M_44 hM (by omega), _, ⟨sr_M_44 hM (by omega), by decide⟩, ?_⟩
          try simp only [show (1 : Int).toNat = 1 from rfl, w1.2]
          refine ⟨by omega, ?_⟩
          refine hJ64 _ _ _ _ _ _ ?_
          unfold wz_247_64
          refine ⟨_, ⟨s_M_1286 hM, by decide⟩, by omega, ?_⟩
          intro I63 e_I63; subst e_I63
          refine hJ145 _ _ _ ?_
          unfold wz_247_145
          exact ih4 _ (by omega) _ _ _ rfl (⟨i + 1, _, by omega, by omega, hs2, by unfold rkS; rw [if_pos (by omega)]; simp, by
            unfold rkS
            rw [if_pos (by omega)]
            refine SK_push hK ?_ (fun k hk => jx_u_k _ _ _ _ (by omega))
            rw [Int.toNat_natCast, jx_u_s]
            exact jy_toInt (by omega), FR_u hF (by omega) (by omega)⟩)
  exact L4 _ _ _ _ rfl (⟨0, [], rfl, by omega, rfl, rfl, fun k x h => by simp at h, FR_refl⟩)
/-- GrievingCamelsModel.haltOf -/
theorem cz_246 {V : jx_V} (hV : V.1.stackTraces = false) {X : jx_X} {R : jx_R} {I : jx_I} {a0 : Nat} {a1 : Int} {l : LT} {L : List Nat} {g d : GT} {p : Nat}
    (hM : MX X R a0) (hD : MD I a0 l) (hW : WT l) (hN : MN I a0 l L g d) (hG : GDn (Ln l) (Lm l) g d) (hLm : ∀ c ∈ L, c < Lm l) (hL8 : L.length ≤ 8) (h1 : a1 = (p : Int)) (hp : p < Ln l)
    {QE : String → jx_I → Prop} : jc V 3 246 (0, 0) [.ref a0, jy a1] X I R (fun rv I' => rv = some (jy (hlt (Lc l) (L.map (g p)) (nd (Lk l p)))) ∧ FR (a0 + 1286) (a0 + 1287) I I') QE := by
  have hW0 := hW.1
  refine wm_246 hV (by omega)  ?_
  have hn := hW.1
  have hm5 := vl_many0 (L.map (g p))
  have hl5 : ((L.map (g p)).length : Int) ≤ 8 := by simp; omega
  have hkp := hD.2.1 p hp
  have hpp : a1.toNat = p := by omega
  unfold wz_246
  refine ⟨s_M_0 hM, ?_⟩
  refine ⟨_, cz_245 (k := 4) hV hM hD hW hN hG hLm hL8 h1 hp rfl (by omega), ?_⟩
  rintro _ I4 ⟨rfl, e9⟩; replace e9 := e9.symm; subst e9
  refine ⟨_, rfl, ?_⟩
  refine ⟨by omega, ?_⟩
  refine ⟨fun hq1 => ?_, fun hq1 => ?_⟩
  · refine ⟨?_, FR_refl⟩
    unfold hlt
    rw [if_pos (by unfold nd; split <;> omega)]
  · refine ⟨_, r_M_13 hM, _, ⟨s_M_6 hM, by decide⟩, ?_⟩
    try simp only [hpp, hkp]
    refine ⟨by omega, ?_⟩
    refine ⟨fun hq2 => ?_, fun hq2 => ?_⟩
    · have hnd : nd (Lk l p) = 1 := by unfold nd; rw [if_neg hq2]
      refine ⟨_, cz_247 hV hM hD hW hN hG hLm hL8 h1 hp rfl, ?_⟩
      rintro _ I14 ⟨rfl, hrk, hF⟩
      refine ⟨_, rfl, ?_⟩
      refine ⟨hrk, ?_⟩
      refine ⟨fun hq3 => ?_, fun hq3 => ?_⟩
      · refine ⟨_, cz_204 hV hrk (by omega), ?_⟩
        rintro _ I19 ⟨rfl, e9⟩; replace e9 := e9.symm; subst e9
        refine ⟨_, rfl, ?_⟩
        refine ⟨?_, hF⟩
        unfold hlt
        rw [if_neg (by omega)]
        congr 2; omega
      · refine ⟨?_, hF⟩
        unfold hlt
        rw [if_neg (by omega)]
        congr 2; omega
    · have hnd : nd (Lk l p) = 3 := by unfold nd; rw [if_pos hq2]
      refine ⟨fun hq4 => ?_, fun hq4 => ?_⟩
      · refine ⟨_, cz_247 hV hM hD hW hN hG hLm hL8 h1 hp rfl, ?_⟩
        rintro _ I23 ⟨rfl, hrk, hF⟩
        refine ⟨_, rfl, ?_⟩
        refine ⟨hrk, ?_⟩
        refine ⟨fun hq5 => ?_, fun hq5 => ?_⟩
        · refine ⟨_, cz_204 hV hrk (by omega), ?_⟩
          rintro _ I28 ⟨rfl, e9⟩; replace e9 := e9.symm; subst e9
          refine ⟨_, rfl, ?_⟩
          refine ⟨?_, hF⟩
          unfold hlt
          rw [if_neg (by omega)]
          congr 2; omega
        · refine ⟨?_, hF⟩
          unfold hlt
          rw [if_neg (by omega)]
          congr 2; omega
      · refine ⟨?_, FR_refl⟩
        unfold hlt
        rw [if_pos (by omega)]
