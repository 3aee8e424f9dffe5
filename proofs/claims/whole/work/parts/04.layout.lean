/-! layout of the world: a place i has a kind, a class or a length, and so many regions; strings stand at 300 .. 308 -/
def ly (i : Nat) : Nat × Nat := cond (Nat.blt i 35) (cond (Nat.blt i 16) (cond (Nat.blt i 8) (cond (Nat.blt i 4) (cond (Nat.blt i 2) (cond (Nat.blt i 1) (cond (Nat.beq i 0) (1, 9) (0, 0)) (cond (Nat.beq i 1) (1, 8) (0, 0))) (cond (Nat.blt i 3) (cond (Nat.beq i 2) (3, 700) (0, 0)) (cond (Nat.beq i 3) (1, 5) (0, 0)))) (cond (Nat.blt i 6) (cond (Nat.blt i 5) (cond (Nat.beq i 4) (1, 2) (0, 0)) (cond (Nat.beq i 5) (2, 8) (0, 0))) (cond (Nat.blt i 7) (cond (Nat.beq i 6) (2, 8) (0, 0)) (cond (Nat.beq i 7) (2, 8) (0, 0))))) (cond (Nat.blt i 12) (cond (Nat.blt i 10) (cond (Nat.blt i 9) (cond (Nat.beq i 8) (1, 0) (0, 0)) (cond (Nat.beq i 9) (6, 10) (0, 0))) (cond (Nat.blt i 11) (cond (Nat.beq i 10) (2, 26) (0, 0)) (cond (Nat.beq i 11) (6, 2) (0, 0)))) (cond (Nat.blt i 14) (cond (Nat.blt i 13) (cond (Nat.beq i 12) (2, 26) (0, 0)) (cond (Nat.beq i 13) (4, 2) (0, 0))) (cond (Nat.blt i 15) (cond (Nat.beq i 14) (1, 3) (0, 0)) (cond (Nat.beq i 15) (2, 8) (0, 0)))))) (cond (Nat.blt i 24) (cond (Nat.blt i 20) (cond (Nat.blt i 18) (cond (Nat.blt i 17) (cond (Nat.beq i 16) (2, 8) (0, 0)) (cond (Nat.beq i 17) (2, 8) (0, 0))) (cond (Nat.blt i 19) (cond (Nat.beq i 18) (6, 9) (0, 0)) (cond (Nat.beq i 19) (2, 8) (0, 0)))) (cond (Nat.blt i 22) (cond (Nat.blt i 21) (cond (Nat.beq i 20) (2, 2816) (0, 0)) (cond (Nat.beq i 21) (1, 1) (0, 0))) (cond (Nat.blt i 23) (cond (Nat.beq i 22) (2, 8) (0, 0)) (cond (Nat.beq i 23) (1, 7) (0, 0))))) (cond (Nat.blt i 30) (cond (Nat.blt i 26) (cond (Nat.blt i 25) (cond (Nat.beq i 24) (2, 8) (0, 0)) (cond (Nat.beq i 25) (2, 8) (0, 0))) (cond (Nat.blt i 27) (cond (Nat.beq i 26) (2, 8) (0, 0)) (cond (Nat.beq i 27) (2, 256) (0, 0)))) (cond (Nat.blt i 32) (cond (Nat.blt i 31) (cond (Nat.beq i 30) (1, 4) (0, 0)) (cond (Nat.beq i 31) (1, 6) (0, 0))) (cond (Nat.blt i 33) (cond (Nat.beq i 32) (2, 8) (0, 0)) (cond (Nat.blt i 34) (cond (Nat.beq i 33) (2, 8) (0, 0)) (cond (Nat.beq i 34) (2, 8) (0, 0)))))))) (cond (Nat.blt i 61) (cond (Nat.blt i 43) (cond (Nat.blt i 39) (cond (Nat.blt i 37) (cond (Nat.blt i 36) (cond (Nat.beq i 35) (2, 8) (0, 0)) (cond (Nat.beq i 36) (1, 6) (0, 0))) (cond (Nat.blt i 38) (cond (Nat.beq i 37) (2, 4) (0, 0)) (cond (Nat.beq i 38) (2, 4) (0, 0)))) (cond (Nat.blt i 41) (cond (Nat.blt i 40) (cond (Nat.beq i 39) (2, 4) (0, 0)) (cond (Nat.beq i 40) (2, 4) (0, 0))) (cond (Nat.blt i 42) (cond (Nat.beq i 41) (2, 8) (0, 0)) (cond (Nat.beq i 42) (2, 8) (0, 0))))) (cond (Nat.blt i 47) (cond (Nat.blt i 45) (cond (Nat.blt i 44) (cond (Nat.beq i 43) (6, 8) (0, 0)) (cond (Nat.beq i 44) (2, 8) (0, 0))) (cond (Nat.blt i 46) (cond (Nat.beq i 45) (2, 8) (0, 0)) (cond (Nat.beq i 46) (2, 8) (0, 0)))) (cond (Nat.blt i 49) (cond (Nat.blt i 48) (cond (Nat.beq i 47) (2, 8) (0, 0)) (cond (Nat.beq i 48) (2, 4) (0, 0))) (cond (Nat.blt i 60) (cond (Nat.beq i 49) (2, 8) (0, 0)) (cond (Nat.beq i 60) (1, 10) (0, 0)))))) (cond (Nat.blt i 69) (cond (Nat.blt i 65) (cond (Nat.blt i 63) (cond (Nat.blt i 62) (cond (Nat.beq i 61) (2, 700) (0, 0)) (cond (Nat.beq i 62) (2, 72) (0, 0))) (cond (Nat.blt i 64) (cond (Nat.beq i 63) (2, 8) (0, 0)) (cond (Nat.beq i 64) (5, 16) (0, 0)))) (cond (Nat.blt i 67) (cond (Nat.blt i 66) (cond (Nat.beq i 65) (2, 26) (0, 0)) (cond (Nat.beq i 66) (2, 26) (0, 0))) (cond (Nat.blt i 68) (cond (Nat.beq i 67) (2, 260) (0, 0)) (cond (Nat.beq i 68) (2, 52) (0, 0))))) (cond (Nat.blt i 73) (cond (Nat.blt i 71) (cond (Nat.blt i 70) (cond (Nat.beq i 69) (4, 2) (0, 0)) (cond (Nat.beq i 70) (2, 8) (0, 0))) (cond (Nat.blt i 72) (cond (Nat.beq i 71) (2, 8) (0, 0)) (cond (Nat.beq i 72) (2, 8) (0, 0)))) (cond (Nat.blt i 75) (cond (Nat.blt i 74) (cond (Nat.beq i 73) (2, 256) (0, 0)) (cond (Nat.beq i 74) (2, 8) (0, 0))) (cond (Nat.blt i 76) (cond (Nat.beq i 75) (2, 8) (0, 0)) (cond (Nat.blt i 77) (cond (Nat.beq i 76) (2, 8) (0, 0)) (cond (Nat.beq i 77) (2, 8) (0, 0))))))))
def rn (i : Nat) : Nat := cond (Nat.blt i 300) (cond (Nat.blt i 35) (cond (Nat.blt i 16) (cond (Nat.blt i 8) (cond (Nat.blt i 4) (cond (Nat.blt i 2) (cond (Nat.blt i 1) (cond (Nat.beq i 0) (1) (0)) (cond (Nat.beq i 1) (1) (0))) (cond (Nat.blt i 3) (cond (Nat.beq i 2) (1) (0)) (cond (Nat.beq i 3) (1) (0)))) (cond (Nat.blt i 6) (cond (Nat.blt i 5) (cond (Nat.beq i 4) (1) (0)) (cond (Nat.beq i 5) (1) (0))) (cond (Nat.blt i 7) (cond (Nat.beq i 6) (1) (0)) (cond (Nat.beq i 7) (1) (0))))) (cond (Nat.blt i 12) (cond (Nat.blt i 10) (cond (Nat.blt i 9) (cond (Nat.beq i 8) (1) (0)) (cond (Nat.beq i 9) (1) (0))) (cond (Nat.blt i 11) (cond (Nat.beq i 10) (10) (0)) (cond (Nat.beq i 11) (1) (0)))) (cond (Nat.blt i 14) (cond (Nat.blt i 13) (cond (Nat.beq i 12) (2) (0)) (cond (Nat.beq i 13) (1) (0))) (cond (Nat.blt i 15) (cond (Nat.beq i 14) (1) (0)) (cond (Nat.beq i 15) (1) (0)))))) (cond (Nat.blt i 24) (cond (Nat.blt i 20) (cond (Nat.blt i 18) (cond (Nat.blt i 17) (cond (Nat.beq i 16) (1) (0)) (cond (Nat.beq i 17) (1) (0))) (cond (Nat.blt i 19) (cond (Nat.beq i 18) (1) (0)) (cond (Nat.beq i 19) (9) (0)))) (cond (Nat.blt i 22) (cond (Nat.blt i 21) (cond (Nat.beq i 20) (1) (0)) (cond (Nat.beq i 21) (1) (0))) (cond (Nat.blt i 23) (cond (Nat.beq i 22) (1) (0)) (cond (Nat.beq i 23) (1) (0))))) (cond (Nat.blt i 30) (cond (Nat.blt i 26) (cond (Nat.blt i 25) (cond (Nat.beq i 24) (1) (0)) (cond (Nat.beq i 25) (1) (0))) (cond (Nat.blt i 27) (cond (Nat.beq i 26) (1) (0)) (cond (Nat.beq i 27) (1) (0)))) (cond (Nat.blt i 32) (cond (Nat.blt i 31) (cond (Nat.beq i 30) (2) (0)) (cond (Nat.beq i 31) (2) (0))) (cond (Nat.blt i 33) (cond (Nat.beq i 32) (2) (0)) (cond (Nat.blt i 34) (cond (Nat.beq i 33) (2) (0)) (cond (Nat.beq i 34) (2) (0)))))))) (cond (Nat.blt i 61) (cond (Nat.blt i 43) (cond (Nat.blt i 39) (cond (Nat.blt i 37) (cond (Nat.blt i 36) (cond (Nat.beq i 35) (2) (0)) (cond (Nat.beq i 36) (2) (0))) (cond (Nat.blt i 38) (cond (Nat.beq i 37) (2) (0)) (cond (Nat.beq i 38) (2) (0)))) (cond (Nat.blt i 41) (cond (Nat.blt i 40) (cond (Nat.beq i 39) (2) (0)) (cond (Nat.beq i 40) (2) (0))) (cond (Nat.blt i 42) (cond (Nat.beq i 41) (2) (0)) (cond (Nat.beq i 42) (2) (0))))) (cond (Nat.blt i 47) (cond (Nat.blt i 45) (cond (Nat.blt i 44) (cond (Nat.beq i 43) (2) (0)) (cond (Nat.beq i 44) (16) (0))) (cond (Nat.blt i 46) (cond (Nat.beq i 45) (2) (0)) (cond (Nat.beq i 46) (2) (0)))) (cond (Nat.blt i 49) (cond (Nat.blt i 48) (cond (Nat.beq i 47) (2) (0)) (cond (Nat.beq i 48) (2) (0))) (cond (Nat.blt i 60) (cond (Nat.beq i 49) (2) (0)) (cond (Nat.beq i 60) (1) (0)))))) (cond (Nat.blt i 69) (cond (Nat.blt i 65) (cond (Nat.blt i 63) (cond (Nat.blt i 62) (cond (Nat.beq i 61) (1) (0)) (cond (Nat.beq i 62) (1) (0))) (cond (Nat.blt i 64) (cond (Nat.beq i 63) (1) (0)) (cond (Nat.beq i 64) (1) (0)))) (cond (Nat.blt i 67) (cond (Nat.blt i 66) (cond (Nat.beq i 65) (1) (0)) (cond (Nat.beq i 66) (1) (0))) (cond (Nat.blt i 68) (cond (Nat.beq i 67) (1) (0)) (cond (Nat.beq i 68) (1) (0))))) (cond (Nat.blt i 73) (cond (Nat.blt i 71) (cond (Nat.blt i 70) (cond (Nat.beq i 69) (1) (0)) (cond (Nat.beq i 70) (1) (0))) (cond (Nat.blt i 72) (cond (Nat.beq i 71) (1) (0)) (cond (Nat.beq i 72) (1) (0)))) (cond (Nat.blt i 75) (cond (Nat.blt i 74) (cond (Nat.beq i 73) (1) (0)) (cond (Nat.beq i 74) (1) (0))) (cond (Nat.blt i 76) (cond (Nat.beq i 75) (1) (0)) (cond (Nat.blt i 77) (cond (Nat.beq i 76) (1) (0)) (cond (Nat.beq i 77) (1) (0))))))))) (cond (Nat.blt i 309) 1 0)
def tgt (i k : Nat) : Nat := cond (Nat.blt i 18) (cond (Nat.blt i 8) (cond (Nat.blt i 3) (cond (Nat.blt i 1) (cond (Nat.beq i 0) (cond (Nat.blt k 5) (cond (Nat.blt k 2) (cond (Nat.blt k 1) (cond (Nat.beq k 0) (1) (0)) (cond (Nat.beq k 1) (3) (0))) (cond (Nat.blt k 3) (cond (Nat.beq k 2) (4) (0)) (cond (Nat.blt k 4) (cond (Nat.beq k 3) (8) (0)) (cond (Nat.beq k 4) (11) (0))))) (cond (Nat.blt k 8) (cond (Nat.blt k 6) (cond (Nat.beq k 5) (13) (0)) (cond (Nat.blt k 7) (cond (Nat.beq k 6) (14) (0)) (cond (Nat.beq k 7) (21) (0)))) (cond (Nat.blt k 9) (cond (Nat.beq k 8) (23) (0)) (cond (Nat.blt k 10) (cond (Nat.beq k 9) (30) (0)) (cond (Nat.beq k 10) (30) (0)))))) (0)) (cond (Nat.beq i 1) (cond (Nat.beq k 0) (2) (0)) (0))) (cond (Nat.blt i 4) (cond (Nat.beq i 3) (cond (Nat.beq k 0) (1) (0)) (0)) (cond (Nat.beq i 4) (cond (Nat.blt k 1) (cond (Nat.beq k 0) (5) (0)) (cond (Nat.blt k 2) (cond (Nat.beq k 1) (6) (0)) (cond (Nat.beq k 2) (7) (0)))) (0)))) (cond (Nat.blt i 11) (cond (Nat.blt i 9) (cond (Nat.beq i 8) (cond (Nat.beq k 0) (9) (0)) (0)) (cond (Nat.beq i 9) (cond (Nat.beq k 0) (10) (0)) (0))) (cond (Nat.blt i 14) (cond (Nat.beq i 11) (cond (Nat.beq k 0) (12) (0)) (0)) (cond (Nat.beq i 14) (cond (Nat.blt k 3) (cond (Nat.blt k 1) (cond (Nat.beq k 0) (15) (0)) (cond (Nat.blt k 2) (cond (Nat.beq k 1) (16) (0)) (cond (Nat.beq k 2) (17) (0)))) (cond (Nat.blt k 4) (cond (Nat.beq k 3) (18) (0)) (cond (Nat.blt k 5) (cond (Nat.beq k 4) (20) (0)) (cond (Nat.beq k 5) (27) (0))))) (0))))) (cond (Nat.blt i 31) (cond (Nat.blt i 23) (cond (Nat.blt i 21) (cond (Nat.beq i 18) (cond (Nat.beq k 0) (19) (0)) (0)) (cond (Nat.beq i 21) (cond (Nat.blt k 1) (cond (Nat.beq k 0) (14) (0)) (cond (Nat.beq k 1) (22) (0))) (0))) (cond (Nat.blt i 30) (cond (Nat.beq i 23) (cond (Nat.blt k 2) (cond (Nat.blt k 1) (cond (Nat.beq k 0) (14) (0)) (cond (Nat.beq k 1) (24) (0))) (cond (Nat.blt k 3) (cond (Nat.beq k 2) (25) (0)) (cond (Nat.beq k 3) (26) (0)))) (0)) (cond (Nat.beq i 30) (cond (Nat.blt k 5) (cond (Nat.blt k 2) (cond (Nat.blt k 1) (cond (Nat.beq k 0) (31) (0)) (cond (Nat.beq k 1) (36) (0))) (cond (Nat.blt k 3) (cond (Nat.beq k 2) (41) (0)) (cond (Nat.blt k 4) (cond (Nat.beq k 3) (42) (0)) (cond (Nat.beq k 4) (43) (0))))) (cond (Nat.blt k 7) (cond (Nat.blt k 6) (cond (Nat.beq k 5) (45) (0)) (cond (Nat.beq k 6) (46) (0))) (cond (Nat.blt k 8) (cond (Nat.beq k 7) (47) (0)) (cond (Nat.blt k 9) (cond (Nat.beq k 8) (48) (0)) (cond (Nat.beq k 9) (49) (0)))))) (0)))) (cond (Nat.blt i 43) (cond (Nat.blt i 36) (cond (Nat.beq i 31) (cond (Nat.blt k 2) (cond (Nat.blt k 1) (cond (Nat.beq k 0) (32) (0)) (cond (Nat.beq k 1) (33) (0))) (cond (Nat.blt k 3) (cond (Nat.beq k 2) (34) (0)) (cond (Nat.beq k 3) (35) (0)))) (0)) (cond (Nat.beq i 36) (cond (Nat.blt k 2) (cond (Nat.blt k 1) (cond (Nat.beq k 0) (37) (0)) (cond (Nat.beq k 1) (38) (0))) (cond (Nat.blt k 3) (cond (Nat.beq k 2) (39) (0)) (cond (Nat.beq k 3) (40) (0)))) (0))) (cond (Nat.blt i 60) (cond (Nat.beq i 43) (cond (Nat.beq k 0) (44) (0)) (0)) (cond (Nat.beq i 60) (cond (Nat.blt k 28) (cond (Nat.blt k 24) (cond (Nat.blt k 15) (cond (Nat.blt k 14) (cond (Nat.beq k 3) (61) (0)) (cond (Nat.beq k 14) (62) (0))) (cond (Nat.blt k 16) (cond (Nat.beq k 15) (63) (0)) (cond (Nat.beq k 16) (64) (0)))) (cond (Nat.blt k 26) (cond (Nat.blt k 25) (cond (Nat.beq k 24) (65) (0)) (cond (Nat.beq k 25) (66) (0))) (cond (Nat.blt k 27) (cond (Nat.beq k 26) (67) (0)) (cond (Nat.beq k 27) (68) (0))))) (cond (Nat.blt k 39) (cond (Nat.blt k 31) (cond (Nat.blt k 30) (cond (Nat.beq k 28) (69) (0)) (cond (Nat.beq k 30) (70) (0))) (cond (Nat.blt k 34) (cond (Nat.beq k 31) (71) (0)) (cond (Nat.beq k 34) (72) (0)))) (cond (Nat.blt k 42) (cond (Nat.blt k 40) (cond (Nat.beq k 39) (73) (0)) (cond (Nat.beq k 40) (74) (0))) (cond (Nat.blt k 43) (cond (Nat.beq k 42) (75) (0)) (cond (Nat.blt k 44) (cond (Nat.beq k 43) (76) (0)) (cond (Nat.beq k 44) (77) (0))))))) (0)))))
def tgtK (i k : Nat) (K : Nat → Prop) : Prop := cond (Nat.blt i 18) (cond (Nat.blt i 8) (cond (Nat.blt i 3) (cond (Nat.blt i 1) (cond (Nat.beq i 0) (cond (Nat.blt k 5) (cond (Nat.blt k 2) (cond (Nat.blt k 1) (cond (Nat.beq k 0) (K 1) (K 0)) (cond (Nat.beq k 1) (K 3) (K 0))) (cond (Nat.blt k 3) (cond (Nat.beq k 2) (K 4) (K 0)) (cond (Nat.blt k 4) (cond (Nat.beq k 3) (K 8) (K 0)) (cond (Nat.beq k 4) (K 11) (K 0))))) (cond (Nat.blt k 8) (cond (Nat.blt k 6) (cond (Nat.beq k 5) (K 13) (K 0)) (cond (Nat.blt k 7) (cond (Nat.beq k 6) (K 14) (K 0)) (cond (Nat.beq k 7) (K 21) (K 0)))) (cond (Nat.blt k 9) (cond (Nat.beq k 8) (K 23) (K 0)) (cond (Nat.blt k 10) (cond (Nat.beq k 9) (K 30) (K 0)) (cond (Nat.beq k 10) (K 30) (K 0)))))) (K 0)) (cond (Nat.beq i 1) (cond (Nat.beq k 0) (K 2) (K 0)) (K 0))) (cond (Nat.blt i 4) (cond (Nat.beq i 3) (cond (Nat.beq k 0) (K 1) (K 0)) (K 0)) (cond (Nat.beq i 4) (cond (Nat.blt k 1) (cond (Nat.beq k 0) (K 5) (K 0)) (cond (Nat.blt k 2) (cond (Nat.beq k 1) (K 6) (K 0)) (cond (Nat.beq k 2) (K 7) (K 0)))) (K 0)))) (cond (Nat.blt i 11) (cond (Nat.blt i 9) (cond (Nat.beq i 8) (cond (Nat.beq k 0) (K 9) (K 0)) (K 0)) (cond (Nat.beq i 9) (cond (Nat.beq k 0) (K 10) (K 0)) (K 0))) (cond (Nat.blt i 14) (cond (Nat.beq i 11) (cond (Nat.beq k 0) (K 12) (K 0)) (K 0)) (cond (Nat.beq i 14) (cond (Nat.blt k 3) (cond (Nat.blt k 1) (cond (Nat.beq k 0) (K 15) (K 0)) (cond (Nat.blt k 2) (cond (Nat.beq k 1) (K 16) (K 0)) (cond (Nat.beq k 2) (K 17) (K 0)))) (cond (Nat.blt k 4) (cond (Nat.beq k 3) (K 18) (K 0)) (cond (Nat.blt k 5) (cond (Nat.beq k 4) (K 20) (K 0)) (cond (Nat.beq k 5) (K 27) (K 0))))) (K 0))))) (cond (Nat.blt i 31) (cond (Nat.blt i 23) (cond (Nat.blt i 21) (cond (Nat.beq i 18) (cond (Nat.beq k 0) (K 19) (K 0)) (K 0)) (cond (Nat.beq i 21) (cond (Nat.blt k 1) (cond (Nat.beq k 0) (K 14) (K 0)) (cond (Nat.beq k 1) (K 22) (K 0))) (K 0))) (cond (Nat.blt i 30) (cond (Nat.beq i 23) (cond (Nat.blt k 2) (cond (Nat.blt k 1) (cond (Nat.beq k 0) (K 14) (K 0)) (cond (Nat.beq k 1) (K 24) (K 0))) (cond (Nat.blt k 3) (cond (Nat.beq k 2) (K 25) (K 0)) (cond (Nat.beq k 3) (K 26) (K 0)))) (K 0)) (cond (Nat.beq i 30) (cond (Nat.blt k 5) (cond (Nat.blt k 2) (cond (Nat.blt k 1) (cond (Nat.beq k 0) (K 31) (K 0)) (cond (Nat.beq k 1) (K 36) (K 0))) (cond (Nat.blt k 3) (cond (Nat.beq k 2) (K 41) (K 0)) (cond (Nat.blt k 4) (cond (Nat.beq k 3) (K 42) (K 0)) (cond (Nat.beq k 4) (K 43) (K 0))))) (cond (Nat.blt k 7) (cond (Nat.blt k 6) (cond (Nat.beq k 5) (K 45) (K 0)) (cond (Nat.beq k 6) (K 46) (K 0))) (cond (Nat.blt k 8) (cond (Nat.beq k 7) (K 47) (K 0)) (cond (Nat.blt k 9) (cond (Nat.beq k 8) (K 48) (K 0)) (cond (Nat.beq k 9) (K 49) (K 0)))))) (K 0)))) (cond (Nat.blt i 43) (cond (Nat.blt i 36) (cond (Nat.beq i 31) (cond (Nat.blt k 2) (cond (Nat.blt k 1) (cond (Nat.beq k 0) (K 32) (K 0)) (cond (Nat.beq k 1) (K 33) (K 0))) (cond (Nat.blt k 3) (cond (Nat.beq k 2) (K 34) (K 0)) (cond (Nat.beq k 3) (K 35) (K 0)))) (K 0)) (cond (Nat.beq i 36) (cond (Nat.blt k 2) (cond (Nat.blt k 1) (cond (Nat.beq k 0) (K 37) (K 0)) (cond (Nat.beq k 1) (K 38) (K 0))) (cond (Nat.blt k 3) (cond (Nat.beq k 2) (K 39) (K 0)) (cond (Nat.beq k 3) (K 40) (K 0)))) (K 0))) (cond (Nat.blt i 60) (cond (Nat.beq i 43) (cond (Nat.beq k 0) (K 44) (K 0)) (K 0)) (cond (Nat.beq i 60) (cond (Nat.blt k 28) (cond (Nat.blt k 24) (cond (Nat.blt k 15) (cond (Nat.blt k 14) (cond (Nat.beq k 3) (K 61) (K 0)) (cond (Nat.beq k 14) (K 62) (K 0))) (cond (Nat.blt k 16) (cond (Nat.beq k 15) (K 63) (K 0)) (cond (Nat.beq k 16) (K 64) (K 0)))) (cond (Nat.blt k 26) (cond (Nat.blt k 25) (cond (Nat.beq k 24) (K 65) (K 0)) (cond (Nat.beq k 25) (K 66) (K 0))) (cond (Nat.blt k 27) (cond (Nat.beq k 26) (K 67) (K 0)) (cond (Nat.beq k 27) (K 68) (K 0))))) (cond (Nat.blt k 39) (cond (Nat.blt k 31) (cond (Nat.blt k 30) (cond (Nat.beq k 28) (K 69) (K 0)) (cond (Nat.beq k 30) (K 70) (K 0))) (cond (Nat.blt k 34) (cond (Nat.beq k 31) (K 71) (K 0)) (cond (Nat.beq k 34) (K 72) (K 0)))) (cond (Nat.blt k 42) (cond (Nat.blt k 40) (cond (Nat.beq k 39) (K 73) (K 0)) (cond (Nat.beq k 40) (K 74) (K 0))) (cond (Nat.blt k 43) (cond (Nat.beq k 42) (K 75) (K 0)) (cond (Nat.blt k 44) (cond (Nat.beq k 43) (K 76) (K 0)) (cond (Nat.beq k 44) (K 77) (K 0))))))) (K 0)))))
theorem cond_ap {α β : Type} (f : α → β) (b : Bool) (x y : α) : cond b (f x) (f y) = f (cond b x y) := by cases b <;> rfl
theorem cond_apP {α : Type} (f : α → Prop) (b : Bool) (x y : α) : cond b (f x) (f y) = f (cond b x y) := by cases b <;> rfl
theorem tgtK_eq (i k : Nat) (K : Nat → Prop) : tgtK i k K = K (tgt i k) := by
  unfold tgtK tgt
  simp only [cond_apP]
def nf (c : Nat) : Nat := cond (Nat.blt c 5) (cond (Nat.blt c 2) (cond (Nat.blt c 1) (cond (Nat.beq c 0) (3) (0)) (cond (Nat.beq c 1) (6) (0))) (cond (Nat.blt c 3) (cond (Nat.beq c 2) (5) (0)) (cond (Nat.blt c 4) (cond (Nat.beq c 3) (8) (0)) (cond (Nat.beq c 4) (11) (0))))) (cond (Nat.blt c 8) (cond (Nat.blt c 6) (cond (Nat.beq c 5) (9) (0)) (cond (Nat.blt c 7) (cond (Nat.beq c 6) (6) (0)) (cond (Nat.beq c 7) (8) (0)))) (cond (Nat.blt c 9) (cond (Nat.beq c 8) (2) (0)) (cond (Nat.blt c 10) (cond (Nat.beq c 9) (14) (0)) (cond (Nat.beq c 10) (45) (0)))))
/-- kind of a field: 0 int, 1 boolean, 2 long, 3 a place of region 0, 4 a place of the same region, 5 a place whose region is told by the memory -/
def fkd (c k : Nat) : Nat := cond (Nat.blt c 5) (cond (Nat.blt c 2) (cond (Nat.blt c 1) (cond (Nat.beq c 0) (cond (Nat.beq k 0) (3) (0)) (0)) (cond (Nat.beq c 1) (cond (Nat.blt k 1) (cond (Nat.beq k 0) (3) (0)) (cond (Nat.beq k 1) (3) (0))) (0))) (cond (Nat.blt c 3) (cond (Nat.beq c 2) (cond (Nat.blt k 1) (cond (Nat.beq k 0) (3) (0)) (cond (Nat.blt k 2) (cond (Nat.beq k 1) (3) (0)) (cond (Nat.beq k 2) (3) (0)))) (0)) (cond (Nat.blt c 4) (cond (Nat.beq c 3) (cond (Nat.blt k 3) (cond (Nat.blt k 1) (cond (Nat.beq k 0) (3) (0)) (cond (Nat.blt k 2) (cond (Nat.beq k 1) (3) (0)) (cond (Nat.beq k 2) (3) (0)))) (cond (Nat.blt k 4) (cond (Nat.beq k 3) (3) (0)) (cond (Nat.blt k 5) (cond (Nat.beq k 4) (3) (0)) (cond (Nat.beq k 5) (3) (0))))) (0)) (cond (Nat.beq c 4) (cond (Nat.blt k 5) (cond (Nat.blt k 2) (cond (Nat.blt k 1) (cond (Nat.beq k 0) (4) (0)) (cond (Nat.beq k 1) (4) (0))) (cond (Nat.blt k 3) (cond (Nat.beq k 2) (4) (0)) (cond (Nat.blt k 4) (cond (Nat.beq k 3) (4) (0)) (cond (Nat.beq k 4) (4) (0))))) (cond (Nat.blt k 7) (cond (Nat.blt k 6) (cond (Nat.beq k 5) (4) (0)) (cond (Nat.beq k 6) (4) (0))) (cond (Nat.blt k 8) (cond (Nat.beq k 7) (4) (0)) (cond (Nat.blt k 9) (cond (Nat.beq k 8) (4) (0)) (cond (Nat.beq k 9) (4) (0)))))) (0))))) (cond (Nat.blt c 8) (cond (Nat.blt c 6) (cond (Nat.beq c 5) (cond (Nat.beq k 0) (3) (0)) (0)) (cond (Nat.blt c 7) (cond (Nat.beq c 6) (cond (Nat.blt k 2) (cond (Nat.blt k 1) (cond (Nat.beq k 0) (4) (0)) (cond (Nat.beq k 1) (4) (0))) (cond (Nat.blt k 3) (cond (Nat.beq k 2) (4) (0)) (cond (Nat.beq k 3) (4) (0)))) (0)) (cond (Nat.beq c 7) (cond (Nat.blt k 2) (cond (Nat.blt k 1) (cond (Nat.beq k 0) (3) (0)) (cond (Nat.beq k 1) (3) (0))) (cond (Nat.blt k 3) (cond (Nat.beq k 2) (3) (0)) (cond (Nat.beq k 3) (3) (0)))) (0)))) (cond (Nat.blt c 9) (cond (Nat.beq c 8) (cond (Nat.beq k 0) (3) (0)) (0)) (cond (Nat.blt c 10) (cond (Nat.beq c 9) (cond (Nat.blt k 5) (cond (Nat.blt k 2) (cond (Nat.blt k 1) (cond (Nat.beq k 0) (3) (0)) (cond (Nat.beq k 1) (3) (0))) (cond (Nat.blt k 3) (cond (Nat.beq k 2) (3) (0)) (cond (Nat.blt k 4) (cond (Nat.beq k 3) (3) (0)) (cond (Nat.beq k 4) (3) (0))))) (cond (Nat.blt k 8) (cond (Nat.blt k 6) (cond (Nat.beq k 5) (3) (0)) (cond (Nat.blt k 7) (cond (Nat.beq k 6) (3) (0)) (cond (Nat.beq k 7) (3) (0)))) (cond (Nat.blt k 9) (cond (Nat.beq k 8) (3) (0)) (cond (Nat.blt k 10) (cond (Nat.beq k 9) (5) (0)) (cond (Nat.beq k 10) (5) (0)))))) (0)) (cond (Nat.beq c 10) (cond (Nat.blt k 27) (cond (Nat.blt k 16) (cond (Nat.blt k 14) (cond (Nat.blt k 13) (cond (Nat.beq k 3) (3) (0)) (cond (Nat.beq k 13) (2) (0))) (cond (Nat.blt k 15) (cond (Nat.beq k 14) (3) (0)) (cond (Nat.beq k 15) (3) (0)))) (cond (Nat.blt k 24) (cond (Nat.blt k 23) (cond (Nat.beq k 16) (3) (0)) (cond (Nat.beq k 23) (1) (0))) (cond (Nat.blt k 25) (cond (Nat.beq k 24) (3) (0)) (cond (Nat.blt k 26) (cond (Nat.beq k 25) (3) (0)) (cond (Nat.beq k 26) (3) (0)))))) (cond (Nat.blt k 39) (cond (Nat.blt k 30) (cond (Nat.blt k 28) (cond (Nat.beq k 27) (3) (0)) (cond (Nat.beq k 28) (3) (0))) (cond (Nat.blt k 31) (cond (Nat.beq k 30) (3) (0)) (cond (Nat.blt k 34) (cond (Nat.beq k 31) (3) (0)) (cond (Nat.beq k 34) (3) (0))))) (cond (Nat.blt k 42) (cond (Nat.blt k 40) (cond (Nat.beq k 39) (3) (0)) (cond (Nat.beq k 40) (3) (0))) (cond (Nat.blt k 43) (cond (Nat.beq k 42) (3) (0)) (cond (Nat.blt k 44) (cond (Nat.beq k 43) (3) (0)) (cond (Nat.beq k 44) (3) (0))))))) (0)))))
def clsC : Nat → String := fun c => match c with
  | 0 => RX0
  | 1 => RX1
  | 2 => RX2
  | 3 => RX3
  | 4 => RX4
  | 5 => RX5
  | 6 => RX6
  | 7 => RX7
  | 8 => RX8
  | 9 => RX9
  | _ => RX10
def clsT : Nat → u_T := fun c => match c with
  | 0 => TX0
  | 1 => TX1
  | 2 => TX2
  | 3 => TX3
  | 4 => TX4
  | 5 => TX5
  | 6 => TX6
  | 7 => TX7
  | 8 => TX8
  | 9 => TX9
  | _ => TX10
def clsY : Nat → Nat → FieldType := fun c => match c with
  | 0 => tyX0
  | 1 => tyX1
  | 2 => tyX2
  | 3 => tyX3
  | 4 => tyX4
  | 5 => tyX5
  | 6 => tyX6
  | 7 => tyX7
  | 8 => tyX8
  | 9 => tyX9
  | _ => tyX10
theorem cls_at : ∀ c, c < 11 → vwCl[c]? = some (clsC c, clsT c, nf c) := by
  intro c h
  match c, h with
  | 0, _ => rfl
  | 1, _ => rfl
  | 2, _ => rfl
  | 3, _ => rfl
  | 4, _ => rfl
  | 5, _ => rfl
  | 6, _ => rfl
  | 7, _ => rfl
  | 8, _ => rfl
  | 9, _ => rfl
  | 10, _ => rfl
  | c + 11, h => exact absurd h (by omega)
theorem cls_nm : ∀ c, c < 11 → ∀ a, a < nf c → ∀ b, b < nf c → a ≠ b → (clsT c a).2.1 ≠ (clsT c b).2.1 := by
  intro c h
  match c, h with
  | 0, _ => exact nmX0
  | 1, _ => exact nmX1
  | 2, _ => exact nmX2
  | 3, _ => exact nmX3
  | 4, _ => exact nmX4
  | 5, _ => exact nmX5
  | 6, _ => exact nmX6
  | 7, _ => exact nmX7
  | 8, _ => exact nmX8
  | 9, _ => exact nmX9
  | 10, _ => exact nmX10
  | c + 11, h => exact absurd h (by omega)
theorem cls_ty : ∀ c, c < 11 → ∀ k, k < nf c → parseFieldDescriptor (clsT c k).2.2.1 = some (clsY c k) := by
  intro c h
  match c, h with
  | 0, _ => exact tyX0_ok
  | 1, _ => exact tyX1_ok
  | 2, _ => exact tyX2_ok
  | 3, _ => exact tyX3_ok
  | 4, _ => exact tyX4_ok
  | 5, _ => exact tyX5_ok
  | 6, _ => exact tyX6_ok
  | 7, _ => exact tyX7_ok
  | 8, _ => exact tyX8_ok
  | 9, _ => exact tyX9_ok
  | 10, _ => exact tyX10_ok
  | c + 11, h => exact absurd h (by omega)
def TW : List Cond := lw_tbl.filter goodWord
theorem tw_mem {w : Cond} (i : Nat) (h : lw_tbl[i]? = some w) (g : goodWord w = true) : w ∈ TW := List.mem_filter.mpr ⟨List.mem_of_getElem? h, g⟩
theorem tw_good : GoodIn TW TW := fun w h => ⟨h, good_of_word (List.mem_filter.mp h).2⟩
theorem laysX0 : u_ws RX0 TX0 3 = [216, 218, 220].filterMap (fun i => lw_tbl[i]?) := by decide +kernel
theorem laysGX0 : (u_ws RX0 TX0 3).all goodWord = true := by decide +kernel
theorem laysX1 : u_ws RX1 TX1 6 = [275, 277, 279, 281, 283, 285].filterMap (fun i => lw_tbl[i]?) := by decide +kernel
theorem laysGX1 : (u_ws RX1 TX1 6).all goodWord = true := by decide +kernel
theorem laysX2 : u_ws RX2 TX2 5 = [192, 194, 196, 198, 200].filterMap (fun i => lw_tbl[i]?) := by decide +kernel
theorem laysGX2 : (u_ws RX2 TX2 5).all goodWord = true := by decide +kernel
theorem laysX3 : u_ws RX3 TX3 8 = [240, 242, 244, 246, 248, 250, 252, 254].filterMap (fun i => lw_tbl[i]?) := by decide +kernel
theorem laysGX3 : (u_ws RX3 TX3 8).all goodWord = true := by decide +kernel
theorem laysX4 : u_ws RX4 TX4 11 = [410, 412, 414, 416, 418, 420, 422, 424, 426, 428, 430].filterMap (fun i => lw_tbl[i]?) := by decide +kernel
theorem laysGX4 : (u_ws RX4 TX4 11).all goodWord = true := by decide +kernel
theorem laysX5 : u_ws RX5 TX5 9 = [153, 155, 157, 159, 161, 163, 165, 167, 169].filterMap (fun i => lw_tbl[i]?) := by decide +kernel
theorem laysGX5 : (u_ws RX5 TX5 9).all goodWord = true := by decide +kernel
theorem laysX6 : u_ws RX6 TX6 6 = [362, 364, 366, 368, 370, 372].filterMap (fun i => lw_tbl[i]?) := by decide +kernel
theorem laysGX6 : (u_ws RX6 TX6 6).all goodWord = true := by decide +kernel
theorem laysX7 : u_ws RX7 TX7 8 = [308, 310, 312, 314, 316, 318, 320, 322].filterMap (fun i => lw_tbl[i]?) := by decide +kernel
theorem laysGX7 : (u_ws RX7 TX7 8).all goodWord = true := by decide +kernel
theorem laysX8 : u_ws RX8 TX8 2 = [130, 132].filterMap (fun i => lw_tbl[i]?) := by decide +kernel
theorem laysGX8 : (u_ws RX8 TX8 2).all goodWord = true := by decide +kernel
theorem laysX9 : u_ws RX9 TX9 14 = [447, 449, 451, 453, 455, 457, 459, 461, 463, 465, 467, 469, 471, 473].filterMap (fun i => lw_tbl[i]?) := by decide +kernel
theorem laysGX9 : (u_ws RX9 TX9 14).all goodWord = true := by decide +kernel
theorem laysX10 : u_ws RX10 TX10 45 = [1212, 1214, 1216, 1218, 1220, 1222, 1224, 1226, 1228, 1230, 1232, 1234, 1236, 1238, 1240, 1242, 1244, 1246, 1248, 1250, 1252, 1254, 1256, 1258, 1260, 1262, 1264, 1266, 1268, 1270, 1272, 1274, 1276, 1278, 1280, 1282, 1284, 1286, 1288, 1290, 1292, 1294, 1296, 1298, 1300].filterMap (fun i => lw_tbl[i]?) := by decide +kernel
theorem laysGX10 : (u_ws RX10 TX10 45).all goodWord = true := by decide +kernel
theorem tw_lays_of {ws : List Cond} (ps : List Nat) (h : ws = ps.filterMap (fun i => lw_tbl[i]?)) (g : ws.all goodWord = true) : ∀ w ∈ ws, w ∈ TW := by
  intro w hw
  have hg := List.all_eq_true.mp g w hw
  rw [h] at hw
  obtain ⟨i, -, hi⟩ := List.mem_filterMap.mp hw
  exact tw_mem i hi hg
theorem tw_lays : ∀ c, c < 11 → ∀ w ∈ u_ws (clsC c) (clsT c) (nf c), w ∈ TW := by
  intro c h
  match c, h with
  | 0, _ => exact tw_lays_of _ laysX0 laysGX0
  | 1, _ => exact tw_lays_of _ laysX1 laysGX1
  | 2, _ => exact tw_lays_of _ laysX2 laysGX2
  | 3, _ => exact tw_lays_of _ laysX3 laysGX3
  | 4, _ => exact tw_lays_of _ laysX4 laysGX4
  | 5, _ => exact tw_lays_of _ laysX5 laysGX5
  | 6, _ => exact tw_lays_of _ laysX6 laysGX6
  | 7, _ => exact tw_lays_of _ laysX7 laysGX7
  | 8, _ => exact tw_lays_of _ laysX8 laysGX8
  | 9, _ => exact tw_lays_of _ laysX9 laysGX9
  | 10, _ => exact tw_lays_of _ laysX10 laysGX10
  | c + 11, h => exact absurd h (by omega)
def nestWord : Cond → Bool
  | .fieldLinkNest .. => true
  | .methodLinkNest .. => true
  | _ => false
def NWl : List Cond := lw_tbl.filter nestWord
def fWord (q : Nat × Nat × Nat × Nat × Nat) : Cond := cond (Nat.beq q.2.2.2.2 0) (Cond.fieldLink (cnm q.1) q.2.1 (clsC q.2.2.1) (clsT q.2.2.1 q.2.2.2.1).2.1 (clsT q.2.2.1 q.2.2.2.1).2.2.1) (Cond.fieldLinkNest (cnm q.1) q.2.1 (clsC q.2.2.1) (clsT q.2.2.1 q.2.2.2.1).2.1 (clsT q.2.2.1 q.2.2.2.1).2.2.1 "ChannelSqueeze")
def okF (q : (Nat × Nat × Nat × Nat × Nat) × Nat) : Bool := Nat.blt q.1.2.2.1 11 && (Nat.blt q.1.2.2.2.1 (nf q.1.2.2.1) && (decide ((clsT q.1.2.2.1 q.1.2.2.2.1).1 = clsC q.1.2.2.1) && decide (lw_tbl[q.2]? = some (fWord q.1))))
theorem flk_ok : flk.all okF = true := by decide +kernel
def mWord (q : Nat × Nat × Nat × Nat) : Cond := cond (Nat.beq q.2.2.2 0) (Cond.methodLink (cnm q.1) q.2.1 (mN (mth q.2.2.1))) (Cond.methodLinkNest (cnm q.1) q.2.1 (mN (mth q.2.2.1)) "ChannelSqueeze")
theorem mlk_ok : mlk.all (fun q => Nat.blt q.1.2.2.1 mCount && decide (lw_tbl[q.2]? = some (mWord q.1))) = true := by decide +kernel
def okYw (y : Nat) (q : Nat × Nat × Nat × Nat) : Bool := decide (lw_tbl[q.2.1]? = some (Cond.initialized (mN (mth y)).cls)) && (cond (Nat.beq (mSt (mth y)) 0) (decide (lw_tbl[q.2.2.1]? = some (Cond.instanceMethod (mN (mth y)))) && decide (lw_tbl[q.2.2.2]? = some (Cond.selects (mN (mth y)).cls (mN (mth y)) (mN (mth y))))) (decide (lw_tbl[q.2.2.1]? = some (Cond.static (mN (mth y))))) && (decide ((mN (mth y)).cls ≠ "java/lang/invoke/MethodHandle") && (decide ((mN (mth y)).cls ≠ "java/lang/invoke/VarHandle") && (decide ((parseMethodDescriptor (mN (mth y)).desc).map (fun d => d.parameters.length) = some (mNa (mth y))) && (plainName (mN (mth y)).cls && (Nat.blt (mL (mth y)) 40 && decide (cnm (mO (mth y)) = (mN (mth y)).cls)))))))
theorem ylk_len : ylk.length = mCount := by decide +kernel
theorem ylk_w : (List.range mCount).all (fun y => okYw y (ylk.getD y (0, 0, 0, 0))) = true := by decide +kernel

def xName (z : Nat) : MethodName := cond (Nat.beq z 2) Lib.Math.max.name Lib.Math.min.name
theorem xlk_ok : xlk.all (fun q => (Nat.beq q.1.2.2 2 || Nat.beq q.1.2.2 3) && decide (lw_tbl[q.2]? = some (Cond.methodLink (cnm q.1.1) q.1.2.1 (xName q.1.2.2)))) = true := by decide +kernel
theorem xw_st2 : lw_tbl[675]? = some (Cond.static Lib.Math.max.name) := by decide +kernel
theorem xw_st3 : lw_tbl[851]? = some (Cond.static Lib.Math.min.name) := by decide +kernel
theorem xw_in : lw_tbl[107]? = some (Cond.initialized "java/lang/Math") := by decide +kernel
theorem xw_c2 : lw_tbl[676]? = some (Cond.code Lib.Math.max.name Lib.Math.max.code 2 (some .int)) := by decide +kernel
theorem xw_c3 : lw_tbl[852]? = some (Cond.code Lib.Math.min.name Lib.Math.min.code 2 (some .int)) := by decide +kernel
